/** Terms 2, FORM: each field of each OP at its bounds, goals at the end, and the order of the FAULTS 1 to 5. */
public final class FormBoundsTest {
    private static final Check CHECK = new Check("FormBoundsTest");
    /** The WORD that is looked at: behind it stand as many that are right. */
    private static final int AT = 1;
    private static final int WORDS = 6;

    /** A row of OPs that use the same fields: the letters of those are in uses; G if D gets something. */
    private record Row(String uses, int[] ops) {
    }

    private static Row row(String uses, int... ops) {
        return new Row(uses, ops);
    }

    // d: D, s: S, o: OFF as a pointer's, j: OFF as a goal's, i: IMM, t: IMM that is 16, 32 or 64, w: 0x18.
    // The document's list of what is not used does not name the IMM of 0 -.
    private static final Row[] ROWS = {
        row("dGi", 0x07, 0x17, 0x27, 0x37, 0x47, 0x57, 0x67, 0x77, 0x87, 0x97, 0xA7, 0xB7, 0xC7),
        row("dGi", 0x04, 0x14, 0x24, 0x34, 0x44, 0x54, 0x64, 0x74, 0x84, 0x94, 0xA4, 0xB4, 0xC4),
        row("dGs", 0x0F, 0x1F, 0x2F, 0x3F, 0x4F, 0x5F, 0x6F, 0x7F, 0x9F, 0xAF, 0xBF, 0xCF),
        row("dGs", 0x0C, 0x1C, 0x2C, 0x3C, 0x4C, 0x5C, 0x6C, 0x7C, 0x9C, 0xAC, 0xBC, 0xCC),
        row("dGt", 0xD4, 0xDC),
        row("dji", 0x15, 0x25, 0x35, 0x45, 0x55, 0x65, 0x75, 0xA5, 0xB5, 0xC5, 0xD5),
        row("dji", 0x16, 0x26, 0x36, 0x46, 0x56, 0x66, 0x76, 0xA6, 0xB6, 0xC6, 0xD6),
        row("djs", 0x1D, 0x2D, 0x3D, 0x4D, 0x5D, 0x6D, 0x7D, 0xAD, 0xBD, 0xCD, 0xDD),
        row("djs", 0x1E, 0x2E, 0x3E, 0x4E, 0x5E, 0x6E, 0x7E, 0xAE, 0xBE, 0xCE, 0xDE),
        row("dGso", 0x61, 0x69, 0x71, 0x79),
        row("dso", 0x63, 0x6B, 0x73, 0x7B),
        row("doi", 0x62, 0x6A, 0x72, 0x7A),
        row("dGiw", 0x18),
        row("j", 0x05),
        row("", 0x95),
    };

    private static boolean uses(Row row, char field) {
        return row.uses.indexOf(field) >= 0;
    }

    /** The FORM FAULT of WORD w where it stands as WORD AT; 0 if it has none of 1 to 5 itself. */
    private static int found(long w, boolean wide) {
        WordJudge x = new WordJudge();
        for (int k = 0; k < WORDS; k++) {
            long other = k == WORDS - 1 ? Asm.EXIT : wide && k == AT + 1 ? 0 : Asm.set(0, k);
            x.word(k, k == AT ? w : other);
        }
        int fault = x.verify();
        return x.fault() == AT && fault <= 5 ? fault : 0;
    }

    private static void due(String what, Row row, long w, int want) {
        CHECK.due(what + " of " + Long.toHexString(w), found(w, uses(row, 'w')), want);
    }

    // 2: "D or S is above 10, or D is 10 where D gets something"; 3: "what is not used is not 0"
    private static void fields() {
        for (Row row : ROWS) {
            for (int op : row.ops) {
                int imm = uses(row, 't') ? 32 : 0;
                due("nothing else", row, Asm.word(op, 0, 0, 0, imm), 0);
                for (int r = 1; r < 16; r++) {
                    boolean isWrong = r > 10 || r == 10 && uses(row, 'G');
                    due("D " + r, row, Asm.word(op, r, 0, 0, imm), isWrong ? 2 : uses(row, 'd') ? 0 : 3);
                    due("S " + r, row, Asm.word(op, 0, r, 0, imm), r > 10 ? 2 : uses(row, 's') ? 0 : 3);
                }
                for (int bit = 0; bit < 32; bit++) {
                    int one = 1 << bit;
                    int wanted = uses(row, 'i') ? 0 : uses(row, 't') ? one == 16 || one == 32 || one == 64 ? 0 : 1 : 3;
                    due("IMM bit " + bit, row, Asm.word(op, 0, 0, 0, one), wanted);
                }
                for (int bit = 0; bit < 16; bit++) {
                    int goal = bit == 15 ? 5 : AT + 1 + (1 << bit) < WORDS ? 0 : 4;
                    int wanted = uses(row, 'o') ? 0 : uses(row, 'j') ? goal : 3;
                    due("OFF bit " + bit, row, Asm.word(op, 0, 0, 1 << bit, imm), wanted);
                }
            }
        }
    }

    // 1: "OP is none of these (also 13 with another IMM)"
    private static void ops() {
        boolean[] known = new boolean[256];
        for (Row row : ROWS) {
            for (int op : row.ops) {
                known[op] = true;
            }
        }
        int how = 0;
        for (int op = 0; op < 256; op++) {
            how += known[op] ? 1 : 0;
            if (!known[op]) {
                CHECK.due("OP " + op, found(Asm.word(op, 0, 0, 0, 0), false), 1);
                CHECK.due("OP " + op + " and wrong else", found(Asm.word(op, 15, 15, -1, -1), false), 1);
            }
        }
        CHECK.due("as many OPs as there are", how, 13 * 2 + 12 * 2 + 2 + 11 * 4 + 12 + 3);
        for (int op : new int[] {0xD4, 0xDC}) {
            for (int imm = -1; imm <= 130; imm++) {
                boolean isOne = imm == 16 || imm == 32 || imm == 64;
                CHECK.due("13 of " + imm, found(Asm.word(op, 0, 0, 0, imm), false), isOne ? 0 : 1);
            }
            CHECK.due("13 of the least", found(Asm.word(op, 0, 0, 0, Integer.MIN_VALUE | 16), false), 1);
        }
        for (int op : new int[] {0xD7, 0xDF}) {
            CHECK.due("13 of 64 bits is none", found(Asm.word(op, 0, 0, 0, 64), false), 1);
        }
    }

    // "OP, D, S, OFF of the WORD behind 0x18": of its first WORD
    private static void seconds() {
        for (int bit = 0; bit < 64; bit++) {
            WordJudge x = Asm.judge(0, Asm.set(0, 0), Asm.wide(0, 1), 1L << bit, Asm.EXIT);
            CHECK.due("second WORD's bit " + bit, x.verify(), bit < 32 ? 3 : 0);
            CHECK.due("second WORD's bit " + bit + ": where", x.fault(), bit < 32 ? 1 : -1);
        }
        dueAll("2 comes before the second WORD's", 2, 0, Asm.wide(11, 0), Asm.EXIT, Asm.EXIT);
        dueAll("the second WORD's comes before 4", 3, 0, Asm.wide(0, 0), Asm.EXIT);
        dueAll("0x18 behind 0x18 is its second WORD", 3, 0, Asm.wide(0, 0), Asm.wide(0, 0), Asm.EXIT);
        dueAll("two of them", 0, -1, Asm.wide(0, 0), 0, Asm.wide(0, 0), 0, Asm.EXIT);
    }

    private static void dueAll(String what, int want, int at, long... words) {
        WordJudge x = Asm.judge(0, words);
        CHECK.due(what, x.verify(), want);
        CHECK.due(what + ": where", x.fault(), at);
    }

    // 5: "OFF of a go or condition is below 0"; 4: "its goal is not below the end, or is a second WORD"
    private static void goals() {
        for (int op : new int[] {0x05, 0x15, 0x1D, 0x16, 0x1E, 0xD5, 0xDD, 0xD6, 0xDE}) {
            for (int off : new int[] {-32768, -32767, -2, -1}) {
                CHECK.due("goal back " + off, found(Asm.word(op, 0, 0, off, 0), false), 5);
            }
            for (int off = 0; off <= 6; off++) {
                CHECK.due("goal " + off, found(Asm.word(op, 0, 0, off, 0), false), AT + 1 + off < WORDS ? 0 : 4);
            }
            for (int off : new int[] {1023, 1024, 32766, 32767}) {
                CHECK.due("goal far " + off, found(Asm.word(op, 0, 0, off, 0), false), 4);
            }
            // WORDS 2 and 3 are a 0x18 with its second one.
            int[] wants = {0, 0, 4, 0, 4};
            for (int off = 0; off < wants.length; off++) {
                dueAll("goal " + off + " near a 0x18 of " + op, wants[off], wants[off] == 0 ? -1 : 1, Asm.set(0, 0),
                    Asm.word(op, 0, 0, off, 0), Asm.set(0, 0), Asm.wide(0, 0), 0, Asm.EXIT);
            }
        }
        WordJudge x = Asm.judge(0, Asm.go(1), Asm.wide(0, 0), 0, Asm.EXIT);
        CHECK.due("goal is a second WORD", x.verify(), 4);
        x.word(1, Asm.set(0, 0));
        x.word(2, Asm.set(0, 0));
        CHECK.due("goal is no second WORD any more", x.verify(), 0);
        goalsOfMost();
    }

    private static WordJudge most(int k, long w) {
        WordJudge x = new WordJudge();
        for (int i = 0; i < 1024; i++) {
            x.word(i, i == k ? w : i == 1023 ? Asm.EXIT : Asm.set(0, 0));
        }
        return x;
    }

    private static void goalsOfMost() {
        int[][] rows = {{0, 1022, 0}, {0, 1023, 4}, {0, 1021, 0}, {1022, 0, 0}, {1022, 1, 4}, {1023, 0, 4}};
        for (int[] row : rows) {
            WordJudge x = most(row[0], Asm.go(row[1]));
            // Nothing sets R0 before the EXIT if all of it is gone over.
            boolean skips = row[0] == 0 && row[1] == 1022;
            CHECK.due("1024 WORDS: go " + row[1] + " at " + row[0], x.verify(), skips ? 14 : row[2]);
            CHECK.due("1024 WORDS: where", x.fault(), skips ? 1023 : row[2] == 0 ? -1 : row[0]);
        }
        WordJudge x = most(1023, Asm.wide(0, 0));
        CHECK.due("1024 WORDS: a 0x18 at the end", x.verify(), 4);
        CHECK.due("1024 WORDS: a 0x18 at the end: where", x.fault(), 1023);
        x = most(1022, Asm.wide(0, 0));
        x.word(1023, 0);
        CHECK.due("1024 WORDS: a 0x18 and its second at the end", x.verify(), 4);
        CHECK.due("1024 WORDS: a 0x18 and its second at the end: where", x.fault(), 1022);
        x = most(1021, Asm.wide(0, 0));
        x.word(1022, 0);
        CHECK.due("1024 WORDS: a 0x18 before the end", x.verify(), 0);
    }

    // 4: "the WORD behind 0x18 is not there; it is the last WORD (a 0x18: with its second one) and no EXIT"
    private static void ends() {
        long[] lasts = {Asm.set(0, 0), Asm.move(0, 1), Asm.alu32(11, 0, 1), Asm.word(0xD4, 0, 0, 0, 16), Asm.go(0),
            Asm.when(1, 0, 0, 0), Asm.when32(1, 0, 0, 0), Asm.read(8, 0, 1, 0), Asm.store(8, 10, -8, 0),
            Asm.storeImm(8, 10, -8, 0), Asm.wide(0, 0)};
        for (long w : lasts) {
            dueAll("one WORD that is no EXIT", 4, 0, w);
            dueAll("the last one is no EXIT", 4, 1, Asm.set(0, 0), w);
            dueAll("the last one is no EXIT behind one", 4, 2, Asm.set(0, 0), Asm.EXIT, w);
        }
        dueAll("EXIT alone", 14, 0, Asm.EXIT);
        dueAll("EXIT at the end", 0, -1, Asm.set(0, 0), Asm.EXIT);
        dueAll("EXIT before the end", 4, 2, Asm.set(0, 0), Asm.EXIT, Asm.set(0, 0));
        dueAll("no second WORD", 4, 1, Asm.set(0, 0), Asm.wide(0, 0));
        dueAll("a second WORD at the end", 4, 1, Asm.set(0, 0), Asm.wide(0, 0), 0);
        dueAll("a second WORD before the EXIT", 0, -1, Asm.set(0, 0), Asm.wide(0, 0), 0, Asm.EXIT);
        // What stood behind the end before a cut is not there any more.
        for (long gone : new long[] {0, Asm.EXIT, Asm.wide(0, 0), -1}) {
            WordJudge x = Asm.judge(0, Asm.set(0, 0), Asm.wide(0, 0), gone, Asm.EXIT);
            x.cut(2);
            CHECK.due("a second WORD that was cut off", x.verify(), 4);
            CHECK.due("a second WORD that was cut off: where", x.fault(), 1);
        }
    }

    // "WORD by WORD ..., of each in this order, the first FAULT"
    private static void order() {
        long[] faulty = {0, Asm.word(0xFF, 0, 0, 0, 0), Asm.set(11, 0), Asm.word(0xB7, 0, 1, 0, 0), Asm.go(50),
            Asm.go(-1)};
        int[] faults = {1, 1, 2, 3, 4, 5};
        for (int i = 0; i < faulty.length; i++) {
            for (int j = 0; j < faulty.length; j++) {
                dueAll("the first WORD's", faults[i], 1, Asm.set(0, 0), faulty[i], faulty[j], Asm.EXIT);
            }
            // A FAULT of STATES in a WORD before it comes later.
            dueAll("FORM before STATES", faults[i], 2, Asm.alu(0, 5, 0), Asm.storeImm(1, 1, 0, 0), faulty[i], Asm.EXIT);
            dueAll("also where nothing comes to", faults[i], 2, Asm.set(0, 0), Asm.EXIT, faulty[i], Asm.EXIT);
        }
        dueAll("1 before 2", 1, 0, Asm.word(0x8F, 11, 0, 0, 0), Asm.EXIT);
        dueAll("1 before 3", 1, 0, Asm.word(0xD4, 0, 1, 1, 17), Asm.EXIT);
        dueAll("1 before 4", 1, 0, Asm.word(0x06, 0, 0, 9, 0));
        dueAll("1 before 5", 1, 0, Asm.word(0x0D, 0, 0, -9, 0), Asm.EXIT);
        dueAll("2 before 3", 2, 0, Asm.word(0x95, 11, 0, 0, 1));
        dueAll("2 before 4", 2, 0, Asm.word(0x15, 11, 0, 9, 0), Asm.EXIT);
        dueAll("2 before 5", 2, 0, Asm.word(0x05, 0, 11, -9, 0), Asm.EXIT);
        dueAll("3 before 5", 3, 0, Asm.word(0x1D, 0, 0, -9, 1), Asm.EXIT);
        dueAll("3 before 4", 3, 0, Asm.word(0x15, 0, 1, 9, 1), Asm.EXIT);
        dueAll("3 before 4 of the last", 3, 0, Asm.word(0x07, 0, 0, 1, 0));
        dueAll("5 before 4 of the last", 5, 0, Asm.word(0x05, 0, 0, -1, 0));
    }

    public static void main(String[] args) {
        fields();
        ops();
        seconds();
        goals();
        ends();
        order();
        CHECK.end();
    }
}
