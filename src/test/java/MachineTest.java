/** What each OP does in a run: cases reckoned by hand, then a grid of edges against Model. */
public final class MachineTest {
    private static final Check CHECK = new Check("MachineTest");
    private static final long MIN = Long.MIN_VALUE;
    private static final long MAX = Long.MAX_VALUE;
    private static final long M32 = (1L << 32) - 1;
    private static final long[] EDGES = {0, 1, 2, 3, 7, 31, 32, 33, 63, 64, 255, 0x7FFFFFFFL, 0x80000000L, M32,
        1L << 32, 0x123456789ABCDEF0L, 0xFEDCBA9876543210L, -1, -2, -7, -32, -64, MIN, MIN + 1, MAX, MAX - 1, 1L << 62};

    /** R2 and R3 come from the CONTEXT, so that verifying does not know them. */
    private static long told(long w, long d, long s) {
        WordJudge x = Asm.judge(16, Asm.read(8, 2, 1, 0), Asm.read(8, 3, 1, 8), w, Asm.move(0, 2), Asm.EXIT);
        CHECK.due("verify", x.verify(), 0);
        x.put(0, d);
        x.put(8, s);
        return x.run();
    }

    private static void due(int op, long d, long s, long want) {
        String what = "op " + Integer.toHexString(op) + " of " + d + " and " + s;
        CHECK.due(what, told(Asm.word(op, 2, 3, 0, 0), d, s), want);
        if (s == (int) s) {
            CHECK.due(what + " as IMM", told(Asm.word(op & ~8, 2, 0, 0, (int) s), d, 0), want);
        }
    }

    private static void byHand() {
        due(0x0F, MAX, 1, MIN);
        due(0x0F, 5, -6, -1);
        due(0x0C, M32, 1, 0);
        due(0x0C, -1, -1, M32 - 1);
        due(0x1F, MIN, 1, MAX);
        due(0x1C, 0, 1, M32);
        due(0x2F, 1L << 62, 4, 0);
        due(0x2C, -1, -1, 1);
        due(0x3F, -1, 2, MAX);
        due(0x3F, -1, -1, 1);
        due(0x3F, -2, -1, 0);
        due(0x3F, 17, 0, 0);
        due(0x3C, -1, 2, 0x7FFFFFFF);
        due(0x3C, 17, 1L << 32, 0);
        due(0x4F, 0x0F, 0xF0, 0xFF);
        due(0x4C, 0, -1, M32);
        due(0x5F, -1, -8, -8);
        due(0x5C, -1, -8, M32 - 7);
        due(0x6F, 1, 63, MIN);
        due(0x6F, 1, 64, 1);
        due(0x6C, 1, 31, 1L << 31);
        due(0x6C, 3, 31, 1L << 31);
        due(0x6C, 1, 32, 1);
        due(0x7F, -1, 60, 15);
        due(0x7F, -1, -4, 15);
        due(0x7C, -1, 28, 15);
        due(0x9F, 17, 5, 2);
        due(0x9F, -1, 10, 5);
        due(0x9F, -1, 0, -1);
        due(0x9C, -1, 0, M32);
        due(0x9C, -1, 10, 5);
        due(0xAF, -1, 1, -2);
        due(0xAC, -1, 1, M32 - 1);
        due(0xBF, 9, -3, -3);
        due(0xBC, 9, -3, M32 - 2);
        due(0xCF, -16, 2, -4);
        due(0xCF, -16, 66, -4);
        due(0xCC, 0xFFFFFFF0L, 2, 0xFFFFFFFCL);
        due(0xCC, 0x7FFFFFF0L, 34, 0x1FFFFFFCL);
        CHECK.due("0 -", told(Asm.word(0x87, 2, 0, 0, 0), 5, 0), -5);
        CHECK.due("0 - the least", told(Asm.word(0x87, 2, 0, 0, 0), MIN, 0), MIN);
        CHECK.due("0 - of 32 bits", told(Asm.word(0x84, 2, 0, 0, 0), 5, 0), M32 - 4);
        CHECK.due("lowest 16", told(Asm.word(0xD4, 2, 0, 0, 16), -2, 0), 0xFFFE);
        CHECK.due("lowest 32", told(Asm.word(0xD4, 2, 0, 0, 32), -2, 0), M32 - 1);
        CHECK.due("lowest 64", told(Asm.word(0xD4, 2, 0, 0, 64), -2, 0), -2);
        CHECK.due("turned 16", told(Asm.word(0xDC, 2, 0, 0, 16), 0x1122334455667788L, 0), 0x8877);
        CHECK.due("turned 32", told(Asm.word(0xDC, 2, 0, 0, 32), 0x1122334455667788L, 0), 0x88776655L);
        CHECK.due("turned 64", told(Asm.word(0xDC, 2, 0, 0, 64), 0x1122334455667788L, 0), 0x8877665544332211L);
    }

    private static void grid() {
        int[] kinds = {0, 1, 2, 3, 4, 5, 6, 7, 9, 10, 11, 12};
        int[] relations = {1, 2, 3, 4, 5, 6, 7, 10, 11, 12, 13};
        for (int kind : kinds) {
            for (int low : new int[] {15, 12}) {
                gridOf(Asm.word(kind << 4 | low, 2, 3, 0, 0), kind << 4 | low, 0);
            }
        }
        for (int op : new int[] {0x87, 0x84, 0xD4, 0xDC}) {
            for (int imm = 16; imm <= 64; imm *= 2) {
                gridOf(Asm.word(op, 2, 0, 0, imm), op, imm);
            }
        }
        for (int relation : relations) {
            for (int low : new int[] {13, 14}) {
                gridOfCondition(relation << 4 | low);
            }
        }
    }

    private static void gridOf(long w, int op, int imm) {
        WordJudge x = Asm.judge(16, Asm.read(8, 2, 1, 0), Asm.read(8, 3, 1, 8), w, Asm.move(0, 2), Asm.EXIT);
        CHECK.due("verify", x.verify(), 0);
        for (long d : EDGES) {
            for (long s : EDGES) {
                x.put(0, d);
                x.put(8, s);
                CHECK.due("op " + Integer.toHexString(op) + " of " + d + " and " + s, x.run(),
                    Model.tell(op, imm, d, s));
            }
        }
    }

    private static void gridOfCondition(int op) {
        WordJudge x = Asm.judge(16, Asm.read(8, 2, 1, 0), Asm.read(8, 3, 1, 8), Asm.set(0, 1),
            Asm.word(op, 2, 3, 1, 0), Asm.set(0, 0), Asm.EXIT);
        CHECK.due("verify", x.verify(), 0);
        for (long d : EDGES) {
            for (long s : EDGES) {
                x.put(0, d);
                x.put(8, s);
                boolean holds = Model.holds(op, d, s);
                CHECK.due("op " + Integer.toHexString(op) + " of " + d + " and " + s, x.run(), holds ? 1 : 0);
                CHECK.due("its steps", x.count(2), holds ? 5 : 6);
            }
        }
        WordJudge y = Asm.judge(16, Asm.read(8, 2, 1, 0), Asm.set(0, 1), Asm.word(op & ~8, 2, 0, 1, -7),
            Asm.set(0, 0), Asm.EXIT);
        CHECK.due("verify", y.verify(), 0);
        for (long d : EDGES) {
            y.put(0, d);
            CHECK.due("op " + Integer.toHexString(op) + " with IMM of " + d, y.run(), Model.holds(op, d, -7) ? 1 : 0);
        }
    }

    private static long ran(long... words) {
        WordJudge x = Asm.judge(16, words);
        CHECK.due("verify", x.verify(), 0);
        x.put(0, 0x8877665544332211L);
        x.put(8, -1);
        long told = x.run();
        CHECK.due("stray runs", x.count(4), 0);
        return told;
    }

    private static void octets() {
        int[] sizes = {1, 2, 4, 8};
        long[] read = {0x22, 0x3322, 0x55443322L, 0xFF88776655443322L};
        for (int i = 0; i < 4; i++) {
            CHECK.due("read " + sizes[i], ran(Asm.read(sizes[i], 0, 1, 1), Asm.EXIT), read[i]);
        }
        long[] stored = {0x00000000000011FFL, 0x00000000002211FFL, 0x00000044332211FFL, 0x77665544332211FFL};
        long[] storedImm = {0xFEFFL, 0xFFFEFFL, 0xFFFFFFFEFFL, 0xFFFFFFFFFFFFFEFFL};
        for (int i = 0; i < 4; i++) {
            CHECK.due("store " + sizes[i], ran(Asm.storeImm(8, 10, -16, 0xFF), Asm.storeImm(8, 10, -8, 0),
                Asm.read(8, 2, 1, 0), Asm.store(sizes[i], 10, -15, 2), Asm.read(8, 0, 10, -16), Asm.EXIT), stored[i]);
            CHECK.due("store IMM " + sizes[i], ran(Asm.storeImm(8, 10, -16, 0xFF), Asm.storeImm(8, 10, -8, 0),
                Asm.storeImm(sizes[i], 10, -15, -2), Asm.read(8, 0, 10, -16), Asm.EXIT), storedImm[i]);
        }
        CHECK.due("wide", ran(Asm.wide(0, 0x89ABCDEF01234567L), Asm.second(0x89ABCDEF01234567L), Asm.EXIT),
            0x89ABCDEF01234567L);
        CHECK.due("wide, zeros above", ran(Asm.wide(0, -1), 0, Asm.EXIT), M32);
        CHECK.due("moved CONTEXT", ran(Asm.alu(0, 1, 1000), Asm.alu(1, 1, 997), Asm.read(2, 0, 1, 1), Asm.EXIT),
            0x6655);
        CHECK.due("number and CONTEXT", ran(Asm.read(1, 2, 1, 0), Asm.alu(5, 2, 3), Asm.aluS(0, 2, 1),
            Asm.read(1, 0, 2, 0), Asm.EXIT), 0x22);
        CHECK.due("kept pointer", ran(Asm.alu(0, 1, 2), Asm.store(8, 10, -8, 1), Asm.set(1, 0), Asm.read(8, 3, 10, -8),
            Asm.read(1, 0, 3, 0), Asm.EXIT), 0x33);
        CHECK.due("kept STACK pointer", ran(Asm.move(2, 10), Asm.alu(0, 2, -16), Asm.store(8, 10, -8, 2),
            Asm.storeImm(2, 10, -16, 0x1234), Asm.read(8, 3, 10, -8), Asm.read(1, 0, 3, 1), Asm.EXIT), 0x12);
        CHECK.due("first and last of the STACK", ran(Asm.storeImm(1, 10, -512, 7), Asm.storeImm(1, 10, -1, 8),
            Asm.read(1, 0, 10, -512), Asm.read(1, 2, 10, -1), Asm.alu(6, 2, 8), Asm.aluS(4, 0, 2), Asm.EXIT), 0x807);
        CHECK.due("go", ran(Asm.set(0, 1), Asm.go(1), Asm.set(0, 2), Asm.alu(0, 0, 4), Asm.EXIT), 5);
    }

    public static void main(String[] args) {
        byHand();
        grid();
        octets();
        CHECK.end();
    }
}
