/** FORM: faults 1 to 5, their order, and the WORD that has them. */
public final class FormTest {
    private static final Check CHECK = new Check("FormTest");

    private static void due(String what, int want, int at, long... words) {
        WordJudge x = Asm.judge(0, words);
        CHECK.due(what, x.verify(), want);
        CHECK.due(what + ": where", x.fault(), at);
    }

    /** The FAULT of w as WORD 1 of 4, with an EXIT at the end. */
    private static void dueOf(String what, int want, long w) {
        due(what, want, want == 0 ? -1 : 1, Asm.set(0, 1), w, Asm.set(0, 2), Asm.EXIT);
    }

    private static boolean isOp(int op) {
        String known = " 07 0f 17 1f 27 2f 37 3f 47 4f 57 5f 67 6f 77 7f 87 97 9f a7 af b7 bf c7 cf"
            + " 04 0c 14 1c 24 2c 34 3c 44 4c 54 5c 64 6c 74 7c 84 94 9c a4 ac b4 bc c4 cc d4 dc"
            + " 05 15 1d 25 2d 35 3d 45 4d 55 5d 65 6d 75 7d a5 ad b5 bd c5 cd d5 dd"
            + " 16 1e 26 2e 36 3e 46 4e 56 5e 66 6e 76 7e a6 ae b6 be c6 ce d6 de"
            + " 61 69 71 79 63 6b 73 7b 62 6a 72 7a 18 95 ";
        return known.contains(String.format(" %02x ", op));
    }

    private static void ops() {
        for (int op = 0; op < 256; op++) {
            int imm = op == 0xD4 || op == 0xDC ? 16 : 0;
            WordJudge x = Asm.judge(0, Asm.set(0, 1), Asm.word(op, 0, 0, 0, imm), 0, Asm.EXIT);
            int found = x.verify();
            CHECK.due("op " + op + " is one", found == 1 && x.fault() == 1 ? 0 : 1, isOp(op) ? 1 : 0);
        }
        for (int op : new int[] {0xD4, 0xDC}) {
            for (int imm : new int[] {16, 32, 64}) {
                dueOf("13 of " + imm, 0, Asm.word(op, 0, 0, 0, imm));
            }
            for (int imm : new int[] {0, 8, 15, 17, 24, 48, 63, 65, 128, -16, 1 << 16}) {
                dueOf("13 of " + imm, 1, Asm.word(op, 0, 0, 0, imm));
            }
        }
        dueOf("1 comes before 2", 1, Asm.word(0xD4, 15, 15, 1, 3));
    }

    private static void registers() {
        dueOf("D 11", 2, Asm.set(11, 1));
        dueOf("D 15", 2, Asm.set(15, 1));
        dueOf("S 11 of an operand", 2, Asm.move(2, 11));
        dueOf("S 11 that is not used", 2, Asm.word(0xB7, 0, 11, 0, 1));
        dueOf("D 11 of go", 2, Asm.word(5, 11, 0, 0, 0));
        dueOf("S 12 of EXIT", 2, Asm.word(0x95, 0, 12, 0, 0));
        dueOf("D 10 gets an operand", 2, Asm.set(10, 1));
        dueOf("D 10 gets a sum", 2, Asm.alu(0, 10, 8));
        dueOf("D 10 turned", 2, Asm.word(0xDC, 10, 0, 0, 16));
        dueOf("D 10 read", 2, Asm.read(8, 10, 1, 0));
        dueOf("D 10 wide", 2, Asm.wide(10, 1));
        dueOf("D 10 compared", 8, Asm.when(1, 10, 0, 0));
        dueOf("D 10 stored to", 0, Asm.storeImm(8, 10, -8, 0));
        dueOf("S 10 moved", 0, Asm.move(9, 10));
        dueOf("2 comes before 3", 2, Asm.word(0xB7, 11, 1, 5, 1));
        dueOf("2 comes before 3, of S", 2, Asm.word(0x95, 3, 15, 0, 1));
    }

    private static void unused() {
        dueOf("IMM with a register operand", 3, Asm.word(0x0F, 0, 0, 0, 1));
        dueOf("IMM with a register operand of 32 bits", 3, Asm.word(0x0C, 0, 0, 0, -1));
        dueOf("IMM with a register condition", 3, Asm.word(0x1D, 0, 0, 0, 1));
        dueOf("IMM with a register condition of 32 bits", 3, Asm.word(0x1E, 0, 0, 0, 1));
        dueOf("IMM of reading", 3, Asm.word(0x79, 0, 10, -8, 1));
        dueOf("IMM of storing S", 3, Asm.word(0x7B, 10, 0, -8, 1));
        dueOf("IMM of EXIT", 3, Asm.word(0x95, 0, 0, 0, 1));
        dueOf("IMM of go", 3, Asm.word(5, 0, 0, 0, 1));
        dueOf("S with an IMM operand", 3, Asm.word(0x07, 0, 1, 0, 1));
        dueOf("S with an IMM operand of 32 bits", 3, Asm.word(0x04, 0, 1, 0, 1));
        dueOf("S with an IMM condition", 3, Asm.word(0x15, 0, 1, 0, 1));
        dueOf("S with an IMM condition of 32 bits", 3, Asm.word(0x16, 0, 10, 0, 1));
        dueOf("S of 0 -", 3, Asm.word(0x87, 0, 1, 0, 0));
        dueOf("S of 13", 3, Asm.word(0xD4, 0, 1, 0, 16));
        dueOf("S of 13 turned", 3, Asm.word(0xDC, 0, 1, 0, 16));
        dueOf("S of storing IMM", 3, Asm.word(0x7A, 10, 1, -8, 1));
        due("S of 0x18", 3, 0, Asm.word(0x18, 0, 1, 0, 1), 0, Asm.EXIT);
        dueOf("S of EXIT", 3, Asm.word(0x95, 0, 1, 0, 0));
        dueOf("S of go", 3, Asm.word(5, 0, 1, 0, 0));
        dueOf("D of go", 3, Asm.word(5, 1, 0, 0, 0));
        dueOf("D of EXIT", 3, Asm.word(0x95, 10, 0, 0, 0));
        dueOf("OFF of 64 bits", 3, Asm.word(0x07, 0, 0, 1, 1));
        dueOf("OFF of 32 bits", 3, Asm.word(0x04, 0, 0, -1, 1));
        dueOf("OFF of 13", 3, Asm.word(0xD4, 0, 0, 1, 16));
        due("OFF of 0x18", 3, 0, Asm.word(0x18, 0, 0, 1, 1), 0, Asm.EXIT);
        dueOf("OFF of EXIT", 3, Asm.word(0x95, 0, 0, 1, 0));
        dueOf("the list leaves the IMM of 0 - free", 0, Asm.word(0x87, 0, 0, 0, 7));
        for (int bit = 0; bit < 64; bit++) {
            due("bit " + bit + " of a second word", bit < 32 ? 3 : 0, bit < 32 ? 0 : -1, Asm.wide(0, 1), 1L << bit,
                Asm.EXIT);
        }
        dueOf("3 comes before 5", 3, Asm.word(5, 0, 0, -1, 1));
        dueOf("3 comes before 4", 3, Asm.word(5, 0, 0, 100, 1));
        due("3 of the first word alone, without a second", 3, 0, Asm.word(0x18, 0, 1, 0, 0));
    }

    private static void goals() {
        dueOf("go back", 5, Asm.go(-1));
        dueOf("go far back", 5, Asm.go(-32768));
        dueOf("condition back", 5, Asm.when(1, 0, 0, -2));
        dueOf("condition of 32 bits back", 5, Asm.when32S(1, 0, 0, -2));
        dueOf("go to the next", 0, Asm.go(0));
        dueOf("go to the last", 0, Asm.go(1));
        dueOf("go to the end", 4, Asm.go(2));
        dueOf("go far", 4, Asm.go(32767));
        dueOf("condition to the last", 0, Asm.when(1, 0, 0, 1));
        dueOf("condition to the end", 4, Asm.when(1, 0, 0, 2));
        due("goal is a second word", 4, 0, Asm.go(1), Asm.wide(0, 1), 0, Asm.EXIT);
        due("goal is a first word", 0, -1, Asm.go(0), Asm.wide(0, 1), 0, Asm.EXIT);
        due("condition's goal is a second word", 4, 1, Asm.set(0, 0), Asm.when(1, 0, 0, 1), Asm.wide(0, 1), 0,
            Asm.EXIT);
        due("behind two second words that look like first ones", 3, 1, Asm.go(2), Asm.wide(0, 1), Asm.wide(0, 1),
            Asm.EXIT);
        due("goal is a second word that is wrong itself", 4, 0, Asm.go(1), Asm.wide(0, 1), Asm.wide(0, 1), Asm.EXIT);
        due("no second word", 4, 0, Asm.wide(0, 1));
        due("ends with a second word", 4, 0, Asm.wide(0, 1), 0);
        due("ends with a second word behind others", 4, 1, Asm.set(0, 1), Asm.wide(0, 1), 0);
        due("ends with arithmetic", 4, 1, Asm.EXIT, Asm.set(0, 1));
        due("ends with go", 4, 1, Asm.set(0, 1), Asm.go(0));
        due("ends with a condition", 4, 1, Asm.set(0, 1), Asm.when(1, 0, 0, 0));
        due("ends with storing", 4, 1, Asm.set(0, 1), Asm.storeImm(8, 10, -8, 0));
        due("ends with go back", 5, 1, Asm.set(0, 1), Asm.go(-1));
        due("an EXIT as second word is none", 3, 0, Asm.wide(0, 1), Asm.EXIT);
        due("the first of several", 2, 0, Asm.set(12, 1), 0xFF, Asm.EXIT);
        due("also what is not come to", 1, 2, Asm.set(0, 1), Asm.go(1), 0xFF, Asm.EXIT);
        due("EXIT alone has the right form", 14, 0, Asm.EXIT);
    }

    public static void main(String[] args) {
        ops();
        registers();
        unused();
        goals();
        CHECK.end();
    }
}
