/** Terms 2, what arithmetic makes of NUMBERS: just inside, at and just outside of each bound that is named. */
public final class NumberBoundsTest {
    private static final Check CHECK = new Check("NumberBoundsTest");
    private static final long MIN = Long.MIN_VALUE;
    private static final long MAX = Long.MAX_VALUE;
    private static final long M32 = (1L << 32) - 1;
    private static final int ADD = 0;
    private static final int SUBTRACT = 1;
    private static final int MULTIPLY = 2;
    private static final int DIVIDE = 3;
    private static final int OR = 4;
    private static final int AND = 5;
    private static final int LEFT = 6;
    private static final int RIGHT = 7;
    private static final int LEFT_OVER = 9;
    private static final int EXCLUSIVE_OR = 10;
    private static final int MOVE = 11;
    private static final int RIGHT_SIGNED = 12;

    private static void dueSpan(String what, Program program, long low, long high) {
        int k = program.size();
        WordJudge x = program.ended(1);
        CHECK.due(what + ": verify", x.verify(), 0);
        CHECK.due(what + ": kind", x.state(k, 2, 0), 1);
        CHECK.due(what + ": low", x.state(k, 2, 1), low);
        CHECK.due(what + ": high", x.state(k, 2, 2), high);
    }

    private static void due(int op, long a, long b, long c, long d, long low, long high) {
        String what = "op " + Integer.toHexString(op) + " of [" + a + ", " + b + "] and [" + c + ", " + d + "]";
        dueSpan(what, new Program().span(2, a, b).span(3, c, d).add(Asm.word(op | 8, 2, 3, 0, 0)), low, high);
        if (c == d && c == (int) c) {
            dueSpan(what + " as IMM", new Program().span(2, a, b).add(Asm.word(op, 2, 0, 0, (int) c)), low, high);
        }
    }

    private static void of64(int kind, long a, long b, long c, long d, long low, long high) {
        due(kind << 4 | 7, a, b, c, d, low, high);
    }

    private static void of32(int kind, long a, long b, long c, long d, long low, long high) {
        due(kind << 4 | 4, a, b, c, d, low, high);
    }

    /** All of 64 bits with sign. */
    private static void any64(int kind, long a, long b, long c, long d) {
        of64(kind, a, b, c, d, MIN, MAX);
    }

    private static void any32(int kind, long a, long b, long c, long d) {
        of32(kind, a, b, c, d, 0, M32);
    }

    // "Else + [a + c, b + d]; - [a - d, b - c]", "what is not within 64 bits with sign: all of these"
    private static void sums() {
        of64(ADD, 0, MAX - 2, 0, 1, 0, MAX - 1);
        of64(ADD, 0, MAX - 1, 0, 1, 0, MAX);
        any64(ADD, 0, MAX, 0, 1);
        of64(ADD, MIN + 1, 0, -1, 0, MIN, 0);
        any64(ADD, MIN, 0, -1, 0);
        of64(ADD, 3, 4, -5, -5, -2, -1);
        of64(ADD, -5, -4, 3, 7, -2, 3);
        of64(ADD, -5, -4, 5, 5, 0, 1);
        of64(ADD, MIN, -1, 0, MAX, MIN, MAX - 1);
        of64(ADD, MIN, MAX, 0, 0, MIN, MAX);
        any64(ADD, MIN, MAX, 1, 1);
        any64(ADD, MAX - 1, MAX, 1, 1);
        any64(ADD, MAX - 1, MAX, 2, 2);
        any64(ADD, MIN, MIN + 1, MIN, MIN);
        of64(SUBTRACT, 0, MAX - 1, -1, 0, 0, MAX);
        any64(SUBTRACT, 0, MAX, -1, 0);
        of64(SUBTRACT, MIN + 1, 0, 0, 1, MIN, 0);
        any64(SUBTRACT, MIN, 0, 0, 1);
        of64(SUBTRACT, -2, -1, MIN, MIN, MAX - 1, MAX);
        any64(SUBTRACT, -1, 0, MIN, MIN);
        of64(SUBTRACT, -1, -1, MIN, MAX, MIN, MAX);
        any64(SUBTRACT, 0, 0, MIN, MAX);
        any64(SUBTRACT, -2, -2, MIN, MAX);
        of64(SUBTRACT, 5, 9, 5, 9, -4, 4);
        of64(SUBTRACT, 3, 4, 5, 5, -2, -1);
        of64(SUBTRACT, -5, -4, -7, -5, 0, 3);
        any64(SUBTRACT, MAX - 1, MAX, MIN, MIN);
        of32(ADD, 0, M32 - 2, 1, 1, 1, M32 - 1);
        of32(ADD, 0, M32 - 1, 1, 1, 1, M32);
        any32(ADD, 1, M32, 1, 1);
        any32(ADD, 5, 6, -1, -1);
        of32(SUBTRACT, 2, 5, 1, 1, 1, 4);
        of32(SUBTRACT, 1, 5, 1, 1, 0, 4);
        any32(SUBTRACT, 0, 5, 1, 1);
        of32(SUBTRACT, M32 - 1, M32, 0, 1, M32 - 2, M32);
    }

    // "* the least and the greatest of a * c, a * d, b * c, b * d"
    private static void products() {
        of64(MULTIPLY, 2, 3, 5, 7, 10, 21);
        of64(MULTIPLY, -3, 2, 5, 7, -21, 14);
        of64(MULTIPLY, 2, 3, -7, 5, -21, 15);
        of64(MULTIPLY, -3, -2, -7, -5, 10, 21);
        of64(MULTIPLY, -3, -2, 5, 7, -21, -10);
        of64(MULTIPLY, -3, 2, -7, 5, -15, 21);
        of64(MULTIPLY, -2, 3, -5, 7, -15, 21);
        of64(MULTIPLY, 0, MAX, 0, 1, 0, MAX);
        of64(MULTIPLY, 0, MAX, -1, 1, -MAX, MAX);
        of64(MULTIPLY, MIN, MAX, 1, 1, MIN, MAX);
        of64(MULTIPLY, MIN, MAX, 0, 1, MIN, MAX);
        of64(MULTIPLY, MIN + 1, 0, -1, -1, 0, MAX);
        any64(MULTIPLY, MIN, 0, -1, -1);
        any64(MULTIPLY, -1, 0, MIN, MIN);
        any64(MULTIPLY, -1, 1, MIN, 0);
        of64(MULTIPLY, 0, (1L << 62) - 1, 0, 2, 0, MAX - 1);
        any64(MULTIPLY, 0, 1L << 62, 0, 2);
        of64(MULTIPLY, -(1L << 62), 0, 0, 2, MIN, 0);
        any64(MULTIPLY, -(1L << 62) - 1, 0, 0, 2);
        of64(MULTIPLY, 0, 3037000499L, 0, 3037000499L, 0, 3037000499L * 3037000499L);
        any64(MULTIPLY, 0, 3037000500L, 0, 3037000500L);
        any64(MULTIPLY, 0, 1L << 32, 0, 1L << 32);
        of64(MULTIPLY, MIN, MAX, 0, 0, 0, 0);
        of32(MULTIPLY, 0, 65535, 0, 65537, 0, M32);
        any32(MULTIPLY, 1, 65536, 1, 65536);
        any32(MULTIPLY, 1, M32, 1, M32);
        of32(MULTIPLY, 1, 65536, 1, 65535, 1, 65536L * 65535);
    }

    // "and: c not below 0: [0, d], a not below 0: [0, b], both: the one with the lesser high"
    private static void ands() {
        of64(AND, -5, 9, 0, 7, 0, 7);
        any64(AND, -5, 9, -1, 7);
        of64(AND, 0, 9, -1, 7, 0, 9);
        any64(AND, -1, 9, -1, 7);
        of64(AND, 3, 9, -1, 7, 0, 9);
        of64(AND, 3, 9, -7, -7, 0, 9);
        of64(AND, 0, 6, 0, 7, 0, 6);
        of64(AND, 0, 7, 0, 7, 0, 7);
        of64(AND, 0, 8, 0, 7, 0, 7);
        of64(AND, 3, 9, 5, 7, 0, 7);
        of64(AND, MIN, MAX, 0, 0, 0, 0);
        of64(AND, MIN, MAX, MAX, MAX, 0, MAX);
        any64(AND, MIN, MAX, -1, -1);
        of32(AND, MIN, MAX, 7, 7, 0, 7);
        of32(AND, 3, 9, -1, -1, 0, 9);
    }

    // "or, exclusive or: a, c not below 0: [0, 2 ** k - 1], the least k with b and d below 2 ** k"
    private static void ors() {
        for (int kind : new int[] {OR, EXCLUSIVE_OR}) {
            of64(kind, 0, 1, 0, 0, 0, 1);
            of64(kind, 0, 2, 0, 0, 0, 3);
            of64(kind, 0, 3, 0, 0, 0, 3);
            of64(kind, 0, 4, 0, 0, 0, 7);
            of64(kind, 3, 3, 0, 7, 0, 7);
            of64(kind, 3, 3, 0, 8, 0, 15);
            of64(kind, 5, 6, 1, 1, 0, 7);
            of64(kind, 0, 0, 0, 255, 0, 255);
            of64(kind, 0, 0, 255, 256, 0, 511);
            of64(kind, 0, (1L << 62) - 1, 0, 1, 0, (1L << 62) - 1);
            of64(kind, 0, 1L << 62, 0, 1, 0, MAX);
            of64(kind, 0, MAX, 0, MAX, 0, MAX);
            any64(kind, -1, 3, 0, 1);
            any64(kind, 0, 3, -1, 1);
            any64(kind, -2, -1, -2, -1);
            of32(kind, 0, (1L << 31) - 1, 0, 1, 0, (1L << 31) - 1);
            of32(kind, 0, 1L << 31, 0, 1, 0, M32);
            of32(kind, 0, 1, -1, -1, 0, M32);
            of32(kind, 0, 1, 4, 4, 0, 7);
        }
    }

    // "a not below 0 and c above 0: / [a / d, b / c], left over [0, the lesser of b, d - 1]"
    private static void divisions() {
        of64(DIVIDE, 0, 100, 1, 7, 0, 100);
        any64(DIVIDE, 0, 100, 0, 7);
        any64(DIVIDE, 0, 100, -1, 7);
        any64(DIVIDE, -1, 100, 1, 7);
        of64(DIVIDE, 20, 100, 3, 7, 2, 33);
        of64(DIVIDE, 21, 99, 3, 7, 3, 33);
        of64(DIVIDE, 0, MAX, 1, 1, 0, MAX);
        of64(DIVIDE, 0, MAX, 1, MAX, 0, MAX);
        of64(DIVIDE, MAX - 1, MAX, MAX, MAX, 0, 1);
        any64(DIVIDE, 0, 5, 0, 0);
        any64(DIVIDE, 0, 5, -1, -1);
        of64(LEFT_OVER, 0, 100, 1, 1, 0, 0);
        any64(LEFT_OVER, 0, 100, 0, 1);
        any64(LEFT_OVER, 0, 100, 0, 0);
        any64(LEFT_OVER, -1, 100, 1, 1);
        of64(LEFT_OVER, 0, 5, 3, 7, 0, 5);
        of64(LEFT_OVER, 0, 6, 3, 7, 0, 6);
        of64(LEFT_OVER, 0, 7, 3, 7, 0, 6);
        of64(LEFT_OVER, 4, 5, 3, 7, 0, 5);
        of64(LEFT_OVER, 0, MAX, 1, MAX, 0, MAX - 1);
        any64(LEFT_OVER, 0, 5, -1, -1);
        of32(DIVIDE, MIN, MAX, 1, 2, 0, M32);
        of32(DIVIDE, MIN, MAX, 2, 2, 0, M32 / 2);
        any32(DIVIDE, 5, 6, 0, 2);
        of32(DIVIDE, 5, M32, -1, -1, 0, 1);
        of32(LEFT_OVER, 0, M32, -1, -1, 0, M32 - 1);
        of32(LEFT_OVER, MIN, MAX, 10, 10, 0, 9);
        any32(LEFT_OVER, 5, 6, 1L << 32, 1L << 32);
    }

    // "c is d, k its lowest 6 (5) bits: left: ..., right without sign, a not below 0, and right with sign (32 bits: b
    // below 2 ** 31)"
    private static void shifts() {
        of64(LEFT, -3, 5, 0, 0, -3, 5);
        of64(LEFT, -3, 5, 1, 1, -6, 10);
        of64(LEFT, -3, 5, 64, 64, -3, 5);
        of64(LEFT, -3, 5, 65, 65, -6, 10);
        of64(LEFT, -3, 5, -63, -63, -6, 10);
        any64(LEFT, -3, 5, 1, 2);
        any64(LEFT, -3, 5, 0, 64);
        of64(LEFT, 0, 1, 62, 62, 0, 1L << 62);
        any64(LEFT, 0, 1, 63, 63);
        any64(LEFT, 0, 2, 62, 62);
        of64(LEFT, -2, 0, 62, 62, MIN, 0);
        any64(LEFT, -3, 0, 62, 62);
        of64(LEFT, -1, 0, 63, 63, MIN, 0);
        any64(LEFT, -2, 0, 63, 63);
        of64(LEFT, 0, MAX >> 1, 1, 1, 0, MAX - 1);
        any64(LEFT, 0, (MAX >> 1) + 1, 1, 1);
        of64(LEFT, MIN >> 1, 0, 1, 1, MIN, 0);
        any64(LEFT, (MIN >> 1) - 1, 0, 1, 1);
        of64(RIGHT, 0, 5, 0, 0, 0, 5);
        any64(RIGHT, -1, 5, 0, 0);
        any64(RIGHT, -1, 5, 1, 1);
        of64(RIGHT, 8, MAX, 62, 62, 0, 1);
        of64(RIGHT, 8, MAX, 63, 63, 0, 0);
        of64(RIGHT, 8, MAX, 64, 64, 8, MAX);
        of64(RIGHT, 8, 17, 3, 3, 1, 2);
        any64(RIGHT, 8, 17, 3, 4);
        of64(RIGHT_SIGNED, -9, 9, 1, 1, -5, 4);
        of64(RIGHT_SIGNED, -9, -3, 1, 1, -5, -2);
        of64(RIGHT_SIGNED, -2, -1, 1, 1, -1, -1);
        of64(RIGHT_SIGNED, MIN, MAX, 62, 62, -2, 1);
        of64(RIGHT_SIGNED, MIN, MAX, 63, 63, -1, 0);
        of64(RIGHT_SIGNED, MIN, MAX, 64, 64, MIN, MAX);
        of64(RIGHT_SIGNED, -9, 9, -1, -1, -1, 0);
        any64(RIGHT_SIGNED, -9, 9, 1, 2);
        of32(LEFT, 1, 5, 32, 32, 1, 5);
        of32(LEFT, 1, 5, 33, 33, 2, 10);
        of32(LEFT, 0, (1L << 31) - 1, 1, 1, 0, M32 - 1);
        any32(LEFT, 1, 1L << 31, 1, 1);
        of32(LEFT, 0, 1, 31, 31, 0, 1L << 31);
        any32(LEFT, 0, 2, 31, 31);
        any32(LEFT, 1, 5, 1, 2);
        of32(RIGHT, 1, M32, 31, 31, 0, 1);
        of32(RIGHT, 1, M32, 32, 32, 1, M32);
        of32(RIGHT, MIN, MAX, 31, 31, 0, 1);
        any32(RIGHT, 1, 2, 0, 1);
        of32(RIGHT_SIGNED, 1, (1L << 31) - 1, 1, 1, 0, (1L << 30) - 1);
        of32(RIGHT_SIGNED, 1, (1L << 31) - 1, 32, 32, 1, (1L << 31) - 1);
        any32(RIGHT_SIGNED, 1, 1L << 31, 1, 1);
        any32(RIGHT_SIGNED, 1, 2, 1, 2);
        any32(RIGHT_SIGNED, MIN, MAX, 31, 31);
    }

    /** op: 0 - or 13, which have no operand. */
    private static void alone(int op, int imm, long a, long b, long low, long high) {
        String what = "op " + Integer.toHexString(op) + " " + imm + " of [" + a + ", " + b + "]";
        dueSpan(what, new Program().span(2, a, b).add(Asm.word(op, 2, 0, 0, imm)), low, high);
    }

    // "0 -: [-b, -a]", "13 with IMM 16, 32: [0, 2 ** IMM - 1]"
    private static void withoutOperand() {
        alone(0x87, 0, MIN + 2, 5, -5, MAX - 1);
        alone(0x87, 0, MIN + 1, 5, -5, MAX);
        alone(0x87, 0, MIN, 5, MIN, MAX);
        alone(0x87, 0, MIN, MIN, MIN, MIN);
        alone(0x87, 0, 0, MAX, -MAX, 0);
        alone(0x84, 0, 0, 1, 0, M32);
        alone(0x84, 0, 1, 1, M32, M32);
        alone(0x84, 0, 0, 0, 0, 0);
        for (int op : new int[] {0xD4, 0xDC}) {
            alone(op, 16, 0, 1, 0, 65535);
            alone(op, 16, MIN, MAX, 0, 65535);
            alone(op, 32, 0, 1, 0, M32);
            alone(op, 32, MIN, MAX, 0, M32);
            alone(op, 64, 0, 1, MIN, MAX);
            alone(op, 64, MIN, MAX, MIN, MAX);
            // It takes all of D, also what is above 32 bits.
            alone(op, 64, 0x1100000000000011L, 0x1100000000000011L, 0x1100000000000011L, 0x1100000000000011L);
        }
        alone(0xD4, 32, -1, -1, M32, M32);
        alone(0xD4, 16, 65536, 65536, 0, 0);
    }

    // "one that is just one number is its lowest 32; another one [0, 2 ** 32 - 1], if it is not within that"
    private static void taken() {
        of32(MOVE, 0, 0, 0, M32, 0, M32);
        of32(MOVE, 0, 0, 1, M32, 1, M32);
        of32(MOVE, 0, 0, 1, M32 + 1, 0, M32);
        of32(MOVE, 0, 0, 0, 5, 0, 5);
        of32(MOVE, 0, 0, -1, 5, 0, M32);
        of32(MOVE, 0, 0, M32 + 1, M32 + 5, 0, M32);
        of32(MOVE, 0, 0, MIN, MAX, 0, M32);
        of32(MOVE, 3, 9, 4, 4, 4, 4);
        of32(MOVE, 0, 0, M32, M32, M32, M32);
        of32(MOVE, 0, 0, M32 + 1, M32 + 1, 0, 0);
        of32(MOVE, 0, 0, -1, -1, M32, M32);
        of32(ADD, 1, M32 + 1, 0, 0, 0, M32);
        of32(ADD, 1, M32, 0, 0, 1, M32);
        of32(ADD, M32 + 2, M32 + 2, 1, 2, 2, 3);
        of32(ADD, 1, 2, M32 + 2, M32 + 2, 2, 3);
        of32(ADD, -1, -1, 0, 1, 0, M32);
        of64(MOVE, 0, 0, MIN, MAX, MIN, MAX);
        of64(MOVE, 0, 0, -1, M32 + 1, -1, M32 + 1);
        // "Both just one number: what the MACHINE tells."
        of64(ADD, MAX, MAX, 1, 1, MIN, MIN);
        of64(DIVIDE, -1, -1, 0, 0, 0, 0);
        of64(LEFT, 1, 1, 63, 63, MIN, MIN);
        of32(SUBTRACT, 0, 0, 1, 1, M32, M32);
        of32(RIGHT_SIGNED, 1L << 31, 1L << 31, 31, 31, M32, M32);
    }

    public static void main(String[] args) {
        sums();
        products();
        ands();
        ors();
        divisions();
        shifts();
        withoutOperand();
        taken();
        CHECK.end();
    }
}
