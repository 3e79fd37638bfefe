/** Terms 1, THE MACHINE: just inside, at and just outside of each bound that a sentence of it names. */
public final class MachineBoundsTest {
    private static final Check CHECK = new Check("MachineBoundsTest");
    private static final long MIN = Long.MIN_VALUE;
    private static final long MAX = Long.MAX_VALUE;
    private static final long M32 = (1L << 32) - 1;
    private static final int FILL = 0xA5A5A5A5;
    private static final int[] RELATIONS = {1, 2, 3, 4, 5, 6, 7, 10, 11, 12, 13};

    private static WordJudge verified(String what, int context, long... words) {
        WordJudge x = Asm.judge(context, words);
        CHECK.due(what + ": verify", x.verify(), 0);
        return x;
    }

    /** R0 of WORDS with EXIT behind them; the CONTEXT has d and s in its two eights. */
    private static long ran(String what, long d, long s, long... words) {
        WordJudge x = verified(what, 16, new Program().add(words).add(Asm.EXIT).all());
        x.put(0, d);
        x.put(8, s);
        long told = x.run();
        CHECK.due(what + ": strayed", x.count(4), 0);
        return told;
    }

    /** What w makes of R0 (and R3), in a run that knows nothing of them and in a STATE that knows them just. */
    private static void dueTold(String what, long w, long d, long s, long want) {
        CHECK.due(what, ran(what, d, s, Asm.read(8, 0, 1, 0), Asm.read(8, 3, 1, 8), w), want);
        long[] known = new Program().number(0, d).number(3, s).add(w, Asm.EXIT).all();
        WordJudge x = verified(what, 0, known);
        CHECK.due(what + ": its STATE's low", x.state(5, 0, 1), want);
        CHECK.due(what + ": its STATE's high", x.state(5, 0, 2), want);
        CHECK.due(what + ": told of it", x.run(), want);
    }

    /** kind: OP >> 4; bits: 64 or 32. By register S, and by IMM where it is one. */
    private static void due(int kind, int bits, long d, long s, long want) {
        int size = bits == 64 ? 7 : 4;
        String what = "kind " + kind + " of " + bits + " bits of " + d + " and " + s;
        dueTold(what, Asm.word(kind << 4 | 8 | size, 0, 3, 0, 0), d, s, want);
        if (s == (int) s) {
            dueTold(what + " as IMM", Asm.word(kind << 4 | size, 0, 0, 0, (int) s), d, 0, want);
        }
    }

    // "Numbers: two's complement, + - * wrap."
    private static void wraps() {
        due(0, 64, MAX - 1, 1, MAX);
        due(0, 64, MAX, 1, MIN);
        due(0, 64, MAX, 2, MIN + 1);
        due(0, 64, MIN + 1, -1, MIN);
        due(0, 64, MIN, -1, MAX);
        due(0, 64, -1, 1, 0);
        due(0, 64, MIN, MIN, 0);
        due(1, 64, MIN + 1, 1, MIN);
        due(1, 64, MIN, 1, MAX);
        due(1, 64, MAX - 1, -1, MAX);
        due(1, 64, MAX, -1, MIN);
        due(1, 64, 0, 1, -1);
        due(1, 64, 0, MIN, MIN);
        due(2, 64, 1L << 31, 1L << 31, 1L << 62);
        due(2, 64, 1L << 32, 1L << 31, MIN);
        due(2, 64, 1L << 32, 1L << 32, 0);
        due(2, 64, MAX, 2, -2);
        due(2, 64, MIN, -1, MIN);
        due(2, 64, MIN + 1, -1, MAX);
        due(0, 32, M32 - 1, 1, M32);
        due(0, 32, M32, 1, 0);
        due(0, 32, M32, 2, 1);
        due(0, 32, 0, -1, M32);
        due(1, 32, 1, 1, 0);
        due(1, 32, 0, 1, M32);
        due(1, 32, 0, M32, 1);
        due(2, 32, 65535, 65537, M32);
        due(2, 32, 65536, 65536, 0);
        due(2, 32, 65536, 65537, 65536);
        dueTold("0 - the least and one", Asm.word(0x87, 0, 0, 0, 0), MIN + 1, 0, MAX);
        dueTold("0 - the least", Asm.word(0x87, 0, 0, 0, 0), MIN, 0, MIN);
        dueTold("0 - the greatest", Asm.word(0x87, 0, 0, 0, 0), MAX, 0, MIN + 1);
        dueTold("0 - 0", Asm.word(0x87, 0, 0, 0, 0), 0, 0, 0);
        dueTold("0 - 0 of 32 bits", Asm.word(0x84, 0, 0, 0, 0), 1L << 32, 0, 0);
        dueTold("0 - 1 of 32 bits", Asm.word(0x84, 0, 0, 0, 0), 1, 0, M32);
        dueTold("0 - all of 32 bits", Asm.word(0x84, 0, 0, 0, 0), M32, 0, 1);
    }

    // "32 bits: of D and the operand the lowest 32 are taken, what is told has zeros above"
    private static void takes32() {
        for (int kind : new int[] {0, 1, 2, 4, 5, 10, 11}) {
            long d = 0x89ABCDEF00000003L;
            long s = 0x7654321000000002L;
            long want = kind == 0 ? 5 : kind == 1 ? 1 : kind == 2 ? 6 : kind == 4 ? 3 : kind == 10 ? 1 : 2;
            due(kind, 32, d, s, want);
        }
        due(3, 32, (5L << 32) + 7, (9L << 32) + 2, 3);
        due(9, 32, (5L << 32) + 7, (9L << 32) + 2, 1);
        due(4, 32, 0, -1, M32);
        due(5, 32, -1, -1, M32);
        due(10, 32, 0, -1, M32);
        due(11, 32, 5, M32, M32);
        due(11, 32, 5, 1L << 32, 0);
        due(11, 32, 5, -1, M32);
        due(11, 32, 5, Integer.MIN_VALUE, 1L << 31);
        // "the operand is IMM (its sign goes on)"
        due(11, 64, 5, Integer.MAX_VALUE, Integer.MAX_VALUE);
        due(11, 64, 5, Integer.MIN_VALUE, -(1L << 31));
        due(11, 64, 5, -1, -1);
        due(0, 64, 1L << 31, Integer.MIN_VALUE, 0);
        due(5, 64, -1, Integer.MIN_VALUE, -(1L << 31));
        due(5, 64, -1, Integer.MAX_VALUE, Integer.MAX_VALUE);
    }

    // "/ without sign (by 0: 0)", "what is left of / (by 0: D as taken)"
    private static void divisions() {
        for (long d : new long[] {0, 1, -1, MIN, MAX, M32, 1L << 32}) {
            due(3, 64, d, 0, 0);
            due(9, 64, d, 0, d);
            due(3, 64, d, 1, d);
            due(9, 64, d, 1, 0);
            due(3, 32, d, 0, 0);
            due(9, 32, d, 0, d & M32);
            due(3, 32, d, 1L << 32, 0);
            due(9, 32, d, 1L << 32, d & M32);
            due(3, 32, d, 1, d & M32);
            due(9, 32, d, 1, 0);
        }
        long[][] of64 = {{9, 10, 0, 9}, {10, 10, 1, 0}, {11, 10, 1, 1}, {-2, -1, 0, -2}, {-1, -1, 1, 0},
            {MAX, MIN, 0, MAX}, {MIN, MIN, 1, 0}, {MIN + 1, MIN, 1, 1}, {-1, MIN, 1, MAX}, {MIN, 2, 1L << 62, 0},
            {-1, 2, MAX, 1}, {MIN, MAX, 1, 1}, {-2, MAX, 2, 0}, {-1, MAX, 2, 1}, {MIN, -1, 0, MIN}, {0, -1, 0, 0},
            {-1, 3, 0x5555555555555555L, 0}, {MAX, MAX, 1, 0}, {MAX - 1, MAX, 0, MAX - 1}};
        for (long[] row : of64) {
            due(3, 64, row[0], row[1], row[2]);
            due(9, 64, row[0], row[1], row[3]);
        }
        long[][] of32 = {{M32 - 1, -1, 0, M32 - 1}, {M32, -1, 1, 0}, {1L << 32, -1, 0, 0}, {1L << 31, 2, 1L << 30, 0},
            {-1, 2, (1L << 31) - 1, 1}, {(1L << 31) - 1, 1L << 31, 0, (1L << 31) - 1}, {1L << 31, 1L << 31, 1, 0},
            {MIN, 7, 0, 0}};
        for (long[] row : of32) {
            due(3, 32, row[0], row[1], row[2]);
            due(9, 32, row[0], row[1], row[3]);
        }
    }

    // "all of 6, 7, 12: by the lowest 6 (5) bits"
    private static void shifts() {
        long d = 0x8000000000000003L;
        long[][] of64 = {{0, d, d, d}, {1, 6, 0x4000000000000001L, 0xC000000000000001L}, {62, 3L << 62, 2, -2},
            {63, MIN, 1, -1}, {64, d, d, d}, {65, 6, 0x4000000000000001L, 0xC000000000000001L}, {-1, MIN, 1, -1},
            {-64, d, d, d}, {-2, 3L << 62, 2, -2}, {127, MIN, 1, -1}, {1L << 32, d, d, d}, {MIN, d, d, d},
            {MAX, MIN, 1, -1}};
        for (long[] row : of64) {
            due(6, 64, d, row[0], row[1]);
            due(7, 64, d, row[0], row[2]);
            due(12, 64, d, row[0], row[3]);
        }
        due(12, 64, MAX, 62, 1);
        due(12, 64, MAX, 63, 0);
        due(12, 64, MAX, 64, MAX);
        long e = 0x7FFFFFFF80000003L;
        long low = 0x80000003L;
        long[][] of32 = {{0, low, low, low}, {1, 6, 0x40000001L, 0xC0000001L}, {30, 0xC0000000L, 2, M32 - 1},
            {31, 0x80000000L, 1, M32}, {32, low, low, low}, {33, 6, 0x40000001L, 0xC0000001L},
            {63, 0x80000000L, 1, M32}, {64, low, low, low}, {-1, 0x80000000L, 1, M32}, {-32, low, low, low},
            {(1L << 32) + 1, 6, 0x40000001L, 0xC0000001L}};
        for (long[] row : of32) {
            due(6, 32, e, row[0], row[1]);
            due(7, 32, e, row[0], row[2]);
            due(12, 32, e, row[0], row[3]);
        }
        due(12, 32, 0x7FFFFFFFL, 30, 1);
        due(12, 32, 0x7FFFFFFFL, 31, 0);
        due(12, 32, -1, 31, M32);
    }

    // "IMM 16, 32, 64 lowest bits of D (zeros above), OP & 8: their octets turned around"
    private static void turns() {
        long[][] rows = {{16, 0xFFFF, 0xFFFF, 0xFFFF}, {16, 0x10000, 0, 0}, {16, 0x10001, 1, 0x100},
            {16, 0x8000, 0x8000, 0x80}, {16, -1, 0xFFFF, 0xFFFF}, {32, M32, M32, M32}, {32, M32 + 1, 0, 0},
            {32, M32 + 2, 1, 0x1000000}, {32, 0x80000000L, 0x80000000L, 0x80}, {32, -1, M32, M32},
            {64, 1, 1, 1L << 56}, {64, MIN, MIN, 0x80}, {64, -1, -1, -1}, {64, 0x80, 0x80, MIN}, {64, 0, 0, 0},
            {64, 0x0102030405060708L, 0x0102030405060708L, 0x0807060504030201L}};
        for (long[] row : rows) {
            String what = row[0] + " bits of " + row[1];
            dueTold(what, Asm.word(0xD4, 0, 0, 0, (int) row[0]), row[1], 0, row[2]);
            dueTold(what + " turned", Asm.word(0xDC, 0, 0, 0, (int) row[0]), row[1], 0, row[3]);
        }
    }

    /** holds: the relations that hold of d and s, all others do not. */
    private static void dueHolds(int bits, long d, long s, int... holds) {
        for (int relation : RELATIONS) {
            boolean want = false;
            for (int one : holds) {
                want |= one == relation;
            }
            int size = bits == 64 ? 5 : 6;
            String what = "relation " + relation + " of " + bits + " bits of " + d + " and " + s;
            dueGone(what, Asm.word(relation << 4 | 8 | size, 2, 3, 1, 0), d, s, want);
            if (s == (int) s) {
                dueGone(what + " as IMM", Asm.word(relation << 4 | size, 2, 0, 1, (int) s), d, 0, want);
            }
        }
    }

    private static void dueGone(String what, long w, long d, long s, boolean want) {
        long told = ran(what, d, s, Asm.read(8, 2, 1, 0), Asm.read(8, 3, 1, 8), Asm.set(0, 1), w, Asm.set(0, 0));
        CHECK.due(what, told, want ? 1 : 0);
    }

    // "1 =, 2 >, 3 >= (without sign), 4 and is not 0, 5 not =, 6 >, 7 >= (with sign), 10 <, 11 <= (without), ..."
    private static void conditions() {
        int[] same = {1, 3, 7, 11, 13};
        int[] sameBits = {1, 3, 4, 7, 11, 13};
        int[] above = {2, 3, 5, 6, 7};
        int[] below = {5, 10, 11, 12, 13};
        int[] signTurnsAbove = {2, 3, 5, 12, 13};
        int[] signTurnsBelow = {5, 6, 7, 10, 11};
        dueHolds(64, 0, 0, same);
        dueHolds(64, 1, 0, above);
        dueHolds(64, 0, 1, below);
        dueHolds(64, -1, 0, signTurnsAbove);
        dueHolds(64, 0, -1, signTurnsBelow);
        dueHolds(64, 1, 1, sameBits);
        dueHolds(64, -1, -1, sameBits);
        dueHolds(64, MIN, MAX, signTurnsAbove);
        dueHolds(64, MAX, MIN, signTurnsBelow);
        dueHolds(64, MIN, MIN, sameBits);
        dueHolds(64, MAX, MAX, sameBits);
        dueHolds(64, -1, MIN, 2, 3, 4, 5, 6, 7);
        dueHolds(64, MIN, -1, 4, 5, 10, 11, 12, 13);
        dueHolds(64, MAX, MAX - 1, 2, 3, 4, 5, 6, 7);
        dueHolds(64, MIN, MIN + 1, 4, 5, 10, 11, 12, 13);
        dueHolds(64, 1L << 32, 0, above);
        dueHolds(64, M32, -1, 4, 5, 6, 7, 10, 11);
        dueHolds(32, 0, 0, same);
        dueHolds(32, 1L << 32, 0, same);
        dueHolds(32, MIN, 0, same);
        dueHolds(32, 1L << 32, 1L << 32, same);
        dueHolds(32, (1L << 32) + 1, 0, above);
        dueHolds(32, 0, (7L << 32) + 1, below);
        dueHolds(32, M32, -1, sameBits);
        dueHolds(32, M32, 0, signTurnsAbove);
        dueHolds(32, 0, M32, signTurnsBelow);
        dueHolds(32, 1L << 31, (1L << 31) - 1, signTurnsAbove);
        dueHolds(32, (1L << 31) - 1, 1L << 31, signTurnsBelow);
        dueHolds(32, 1L << 31, 1L << 31, sameBits);
        dueHolds(32, MAX, MIN, signTurnsAbove);
    }

    // "go on at the WORD behind it and OFF more"
    private static void goals() {
        for (int off = 0; off <= 3; off++) {
            CHECK.due("go " + off, ran("go " + off, 0, 0, Asm.set(0, 0), Asm.go(off), Asm.alu(0, 0, 1),
                Asm.alu(0, 0, 2), Asm.alu(0, 0, 4)), 7 >> off << off);
            CHECK.due("if and " + off, ran("if and " + off, 5, 0, Asm.read(8, 2, 1, 0), Asm.set(0, 0),
                Asm.when(1, 2, 5, off), Asm.alu(0, 0, 1), Asm.alu(0, 0, 2), Asm.alu(0, 0, 4)), 7 >> off << off);
        }
        Program far = new Program().add(Asm.set(0, 5), Asm.go(1021));
        while (far.size() < 1023) {
            far.add(Asm.set(0, 6));
        }
        WordJudge x = verified("the farthest goal", 0, far.add(Asm.EXIT).all());
        CHECK.due("the farthest goal", x.run(), 5);
        CHECK.due("the farthest goal: STEPS", x.count(2), 3);
        CHECK.due("the farthest goal: come to", x.count(3), 3);
    }

    // "D gets 4, 2, 1, 8 octets (the lowest first, zeros above)", "the lowest 4, 2, 1, 8 octets of S come there"
    private static void octets() {
        for (int size : new int[] {1, 2, 4, 8}) {
            long ones = size == 8 ? -1 : (1L << 8 * size) - 1;
            CHECK.due("zeros above " + size, ran("read", -1, -1, Asm.read(size, 0, 1, 3)), ones);
            CHECK.due("zeros above " + size + " of the STACK", ran("read", -1, -1, Asm.storeImm(8, 10, -16, -1),
                Asm.storeImm(8, 10, -8, -1), Asm.read(size, 0, 10, -11)), ones);
            long top = 1L << 8 * size - 1;
            CHECK.due("the highest bit of " + size, ran("read", top, -1, Asm.read(size, 0, 1, 0)), top);
            dueStored("just " + size, size, -13, -1);
            dueStored("the lowest of " + size, size, -13, 0x8877665544332211L);
            dueStored("the first of the two eights", size, -16, -1);
            dueStored("the last of the two eights", size, -size, -1);
        }
        // "of IMM", with its sign
        long[] first = {0x80, 0xFF80L, 0xFFFFFF80L, 0xFFFFFFFFFFFFFF80L};
        int[] sizes = {1, 2, 4, 8};
        for (int i = 0; i < 4; i++) {
            CHECK.due("IMM below 0", ran("store", 0, 0, Asm.storeImm(8, 10, -8, 0),
                Asm.storeImm(sizes[i], 10, -8, -128), Asm.read(8, 0, 10, -8)), first[i]);
        }
        CHECK.due("the greatest IMM", ran("store", 0, 0, Asm.storeImm(8, 10, -8, Integer.MAX_VALUE),
            Asm.read(8, 0, 10, -8)), Integer.MAX_VALUE);
        CHECK.due("the least IMM", ran("store", 0, 0, Asm.storeImm(8, 10, -8, Integer.MIN_VALUE),
            Asm.read(8, 0, 10, -8)), Integer.MIN_VALUE);
    }

    /** Each octet of the last sixteen of the STACK, which were 0xA5 before v was stored at off. */
    private static void dueStored(String what, int size, int off, long v) {
        for (int at = -16; at < 0; at++) {
            long told = ran(what, v, 0, Asm.storeImm(4, 10, -16, FILL), Asm.storeImm(4, 10, -12, FILL),
                Asm.storeImm(4, 10, -8, FILL), Asm.storeImm(4, 10, -4, FILL), Asm.read(8, 2, 1, 0),
                Asm.store(size, 10, off, 2), Asm.read(1, 0, 10, at));
            boolean inside = at >= off && at < off + size;
            CHECK.due(what + " at " + off + ": octet " + at, told, inside ? v >>> 8 * (at - off) & 255 : 0xA5);
        }
    }

    // "OFF (with sign)"
    private static void offsets() {
        CHECK.due("OFF least", ran("OFF", 0x1234, 0, Asm.alu(0, 1, 32768), Asm.read(2, 0, 1, -32768)), 0x1234);
        CHECK.due("OFF greatest", ran("OFF", 0x1234, 0, Asm.alu(0, 1, -32767), Asm.read(2, 0, 1, 32767)), 0x1234);
        CHECK.due("OFF -1", ran("OFF", 0x1234, 0, Asm.alu(0, 1, 2), Asm.read(1, 0, 1, -1)), 0x12);
        CHECK.due("OFF of the STACK, greatest", ran("OFF", 0, 0, Asm.move(2, 10), Asm.alu(1, 2, 33279),
            Asm.storeImm(1, 2, 32767, 9), Asm.read(1, 0, 10, -512)), 9);
        CHECK.due("OFF of the STACK, least", ran("OFF", 0, 0, Asm.move(2, 10), Asm.alu(0, 2, 32767),
            Asm.storeImm(1, 2, -32768, 9), Asm.read(1, 0, 10, -1)), 9);
    }

    // "D gets IMM (zeros above) and the IMM of the next WORD (...) above it"
    private static void wides() {
        for (long v : new long[] {0, 1, (1L << 31) - 1, 1L << 31, M32, 1L << 32, M32 << 31, MAX, MIN, MIN + 1, -1,
            -(1L << 31), -(1L << 32), 0x123456789ABCDEFL}) {
            WordJudge x = verified("wide", 0, Asm.wide(0, v), Asm.second(v), Asm.EXIT);
            CHECK.due("wide " + v + ": low", x.state(2, 0, 1), v);
            CHECK.due("wide " + v + ": high", x.state(2, 0, 2), v);
            CHECK.due("wide " + v, x.run(), v);
        }
    }

    // "At first R1 points to the first octet of the CONTEXT, R10 behind the last one of the STACK; others have
    // nothing."
    private static void beginning() {
        WordJudge x = verified("beginning", 1, Asm.set(0, 0), Asm.EXIT);
        for (int r = 0; r <= 10; r++) {
            CHECK.due("R" + r + " at first", x.state(0, r, 0), r == 1 ? 2 : r == 10 ? 3 : 0);
            CHECK.due("R" + r + " at first: low", x.state(0, r, 1), 0);
            CHECK.due("R" + r + " at first: high", x.state(0, r, 2), 0);
        }
        CHECK.due("the first octet", ran("first", 0x77, 0, Asm.read(1, 0, 1, 0)), 0x77);
        CHECK.due("the last octet", ran("last", 0, 0x66L << 56, Asm.read(1, 0, 1, 15)), 0x66);
        CHECK.due("all of the STACK", ran("STACK", 0, 0, Asm.storeImm(1, 10, -512, 1), Asm.storeImm(1, 10, -1, 2),
            Asm.read(1, 0, 10, -512), Asm.read(1, 2, 10, -1), Asm.aluS(0, 0, 2)), 3);
        WordJudge full = verified("CONTEXT of 256", 256, Asm.read(8, 0, 1, 248), Asm.EXIT);
        full.put(248, MIN + 3);
        CHECK.due("the last eight of 256", full.run(), MIN + 3);
    }

    public static void main(String[] args) {
        wraps();
        takes32();
        divisions();
        shifts();
        turns();
        conditions();
        goals();
        octets();
        offsets();
        wides();
        beginning();
        CHECK.end();
    }
}
