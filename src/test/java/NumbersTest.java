import java.math.BigInteger;
import java.util.ArrayList;
import java.util.List;

/** What arithmetic makes of NUMBERS: cases reckoned by hand, then a grid of edges against Model. */
public final class NumbersTest {
    private static final Check CHECK = new Check("NumbersTest");
    private static final long MIN = Long.MIN_VALUE;
    private static final long MAX = Long.MAX_VALUE;
    private static final long M32 = (1L << 32) - 1;
    private static final int[] KINDS = {0, 1, 2, 3, 4, 5, 6, 7, 9, 10, 11, 12};
    private static final long[] EDGES = {MIN, MIN + 1, -(1L << 32), -(1L << 31) - 1, -(1L << 31), -65, -8, -1, 0, 1, 2,
        5, 8, 31, 32, 63, 64, 255, 256, (1L << 31) - 1, 1L << 31, M32, 1L << 32, 1L << 62, MAX - 1, MAX};

    /** The WORDS that make a register a NUMBER from low to high: two ways that meet. */
    private static void span(List<Long> code, int register, long low, long high) {
        code.add(Asm.wide(register, low));
        code.add(Asm.second(low));
        if (low != high) {
            code.add(Asm.read(1, 9, 1, 0));
            code.add(Asm.when32(1, 9, 0, 2));
            code.add(Asm.wide(register, high));
            code.add(Asm.second(high));
        }
    }

    private static WordJudge verified(List<Long> code) {
        code.add(Asm.set(0, 0));
        code.add(Asm.EXIT);
        WordJudge x = new WordJudge();
        x.context(1);
        for (int k = 0; k < code.size(); k++) {
            x.word(k, code.get(k));
        }
        CHECK.due("verify", x.verify(), 0);
        return x;
    }

    /** op: with a register operand. */
    private static void due(int op, long a, long b, long c, long d, long low, long high) {
        List<Long> code = new ArrayList<>();
        span(code, 2, a, b);
        span(code, 3, c, d);
        code.add(Asm.word(op, 2, 3, 0, 0));
        int k = code.size();
        String what = "op " + Integer.toHexString(op) + " of [" + a + ", " + b + "] and [" + c + ", " + d + "]";
        dueSpan(what, verified(code), k, 2, low, high);
    }

    private static void dueSpan(String what, WordJudge x, int k, int r, long low, long high) {
        CHECK.due(what + ": kind", x.state(k, r, 0), 1);
        CHECK.due(what + ": low", x.state(k, r, 1), low);
        CHECK.due(what + ": high", x.state(k, r, 2), high);
    }

    /** op: 0 - or 13. */
    private static void dueAlone(int op, int imm, long a, long b, long low, long high) {
        List<Long> code = new ArrayList<>();
        span(code, 2, a, b);
        code.add(Asm.word(op, 2, 0, 0, imm));
        int k = code.size();
        String what = "op " + Integer.toHexString(op) + " " + imm + " of [" + a + ", " + b + "]";
        dueSpan(what, verified(code), k, 2, low, high);
    }

    private static void byHand() {
        due(0x0F, -3, 4, 10, 20, 7, 24);
        due(0x0F, 0, MAX, 0, 1, MIN, MAX);
        due(0x0F, MIN, 0, 0, 1, MIN, 1);
        due(0x0F, MAX, MAX, 1, 1, MIN, MIN);
        due(0x0F, MIN, 0, -1, -1, MIN, MAX);
        due(0x1F, -3, 4, 10, 20, -23, -6);
        due(0x1F, 0, 5, MIN, 0, MIN, MAX);
        due(0x1F, -1, 5, MIN, MIN, MIN, MAX);
        due(0x1F, -2, -1, MIN, MIN, MAX - 1, MAX);
        due(0x2F, -3, 4, -10, 20, -60, 80);
        due(0x2F, -4, -3, -10, -5, 15, 40);
        due(0x2F, MIN, -1, -1, -1, MIN, MAX);
        due(0x2F, MIN, 0, 1, 1, MIN, 0);
        due(0x2F, 0, 1L << 32, 0, 1L << 31, MIN, MAX);
        due(0x2F, 0, 1L << 31, 0, 1L << 31, 0, 1L << 62);
        due(0x3F, 10, 100, 3, 7, 1, 33);
        due(0x3F, 10, 100, 0, 7, MIN, MAX);
        due(0x3F, -1, 100, 3, 7, MIN, MAX);
        due(0x3F, -1, -1, 2, 2, MAX, MAX);
        due(0x3F, 9, 9, 0, 0, 0, 0);
        due(0x9F, 10, 100, 3, 7, 0, 6);
        due(0x9F, 0, 4, 3, 70, 0, 4);
        due(0x9F, 0, 4, 0, 70, MIN, MAX);
        due(0x9F, 9, 9, 0, 0, 9, 9);
        due(0x5F, -8, 9, 3, 7, 0, 7);
        due(0x5F, 3, 9, -7, 7, 0, 9);
        due(0x5F, 3, 9, 1, 7, 0, 7);
        due(0x5F, 3, 5, 1, 7, 0, 5);
        due(0x5F, -3, 5, -1, 7, MIN, MAX);
        due(0x4F, 3, 5, 1, 8, 0, 15);
        due(0x4F, 3, 7, 1, 2, 0, 7);
        due(0x4F, 0, 1, 0, 0, 0, 1);
        due(0x4F, -1, 1, 0, 0, MIN, MAX);
        due(0xAF, 3, 5, 1, MAX, 0, MAX);
        due(0xAF, 3, 5, -1, 1, MIN, MAX);
        due(0xAF, 256, 300, 0, 0, 0, 511);
        due(0x6F, -3, 5, 4, 4, -48, 80);
        due(0x6F, -3, 5, 68, 68, -48, 80);
        due(0x6F, -3, 5, 4, 5, MIN, MAX);
        due(0x6F, 0, 1, 63, 63, MIN, MAX);
        due(0x6F, -1, 0, 63, 63, MIN, 0);
        due(0x7F, 9, 100, 2, 2, 2, 25);
        due(0x7F, -9, 100, 2, 2, MIN, MAX);
        due(0x7F, -9, 100, 0, 0, MIN, MAX);
        due(0xCF, -9, 100, 2, 2, -3, 25);
        due(0xCF, -9, 100, -62, -62, -3, 25);
        due(0xCF, -9, 100, 1, 2, MIN, MAX);
        by32();
        dueAlone(0x87, 0, -3, 4, -4, 3);
        dueAlone(0x87, 0, MIN, 4, MIN, MAX);
        dueAlone(0x87, 0, MIN, MIN, MIN, MIN);
        dueAlone(0x87, 9, 5, 5, -5, -5);
        dueAlone(0x84, 0, 0, 4, 0, M32);
        dueAlone(0x84, 0, 1, 1, M32, M32);
        for (int op : new int[] {0xD4, 0xDC}) {
            dueAlone(op, 16, 0, 1, 0, 65535);
            dueAlone(op, 32, -1, 1, 0, M32);
            dueAlone(op, 64, 0, 1, MIN, MAX);
        }
        dueAlone(0xD4, 16, 0x12345678, 0x12345678, 0x5678, 0x5678);
        dueAlone(0xDC, 16, 0x12345678, 0x12345678, 0x7856, 0x7856);
        dueAlone(0xDC, 32, -2, -2, 0xFEFFFFFFL, 0xFEFFFFFFL);
        dueAlone(0xD4, 64, -2, -2, -2, -2);
        dueAlone(0xDC, 64, 0x80, 0x80, MIN, MIN);
    }

    private static void by32() {
        due(0x0C, 1, 2, 3, 4, 4, 6);
        due(0x0C, 0, M32, 1, 1, 0, M32);
        due(0x0C, -1, -1, 1, 1, 0, 0);
        due(0x0C, 0, 5, -1, -1, 0, M32);
        due(0x0C, -1, 5, 0, 0, 0, M32);
        due(0x1C, 5, 6, 1, 2, 3, 5);
        due(0x1C, 5, 6, 6, 6, 0, M32);
        due(0x2C, 0, M32, 0, M32, 0, M32);
        due(0x2C, 0, 65535, 0, 65537, 0, M32);
        due(0x2C, 0, 65535, 0, 65536, 0, 65535L * 65536);
        due(0x3C, MIN, MAX, 16, 16, 0, M32 / 16);
        due(0x3C, MIN, MAX, 0, 16, 0, M32);
        due(0x9C, MIN, MAX, -1, -1, 0, M32 - 1);
        due(0x5C, MIN, MAX, 255, 255, 0, 255);
        due(0x5C, MIN, MAX, -1, -1, 0, M32);
        due(0x4C, 0, 1, 1L << 32, 1L << 32, 0, 1);
        due(0x6C, 0, 5, 33, 33, 0, 10);
        due(0x6C, 0, 5, 31, 31, 0, M32);
        due(0x7C, MIN, MAX, 36, 36, 0, M32 >> 4);
        due(0xCC, 0, (1L << 31) - 1, 4, 4, 0, ((1L << 31) - 1) >> 4);
        due(0xCC, 0, 1L << 31, 4, 4, 0, M32);
        due(0xCC, -16, -16, 2, 2, M32 - 3, M32 - 3);
        due(0xBC, 0, 0, -1, -1, M32, M32);
        due(0xBC, 0, 0, -1, 1, 0, M32);
        due(0xBC, 0, 0, 3, 9, 3, 9);
        due(0xBF, 0, 0, -3, 9, -3, 9);
    }

    private static Model.Val val(long low, long high) {
        return Model.Val.num(BigInteger.valueOf(low), BigInteger.valueOf(high));
    }

    private static void grid(long a, long b, long c, long d) {
        List<Long> code = new ArrayList<>();
        span(code, 2, a, b);
        span(code, 3, c, d);
        int[] ops = new int[2 * KINDS.length];
        int first = code.size();
        for (int i = 0; i < ops.length; i++) {
            ops[i] = KINDS[i / 2] << 4 | (i % 2 == 0 ? 15 : 12);
            code.add(Asm.move(4, 2));
            code.add(Asm.word(ops[i], 4, 3, 0, 0));
        }
        WordJudge x = verified(code);
        for (int i = 0; i < ops.length; i++) {
            Model.Val want = ops[i] == 0xBF ? val(c, d) : ops[i] == 0xBC ? Model.take32(val(c, d))
                : Model.numbers(ops[i], 0, val(a, b), val(c, d));
            String what = "grid: op " + Integer.toHexString(ops[i]) + " of [" + a + ", " + b + "] and [" + c + ", " + d
                + "]";
            dueSpan(what, x, first + 2 * i + 2, 4, want.lo().longValueExact(), want.hi().longValueExact());
        }
    }

    public static void main(String[] args) {
        byHand();
        int turn = 0;
        for (int i = 0; i < EDGES.length; i++) {
            for (int j = i; j < EDGES.length; j++) {
                for (int k = 0; k < EDGES.length; k++) {
                    // Single operands all, wider ones in turn: the whole grid would take minutes.
                    grid(EDGES[i], EDGES[j], EDGES[k], EDGES[k]);
                    turn++;
                    int l = k + turn % (EDGES.length - k);
                    grid(EDGES[i], EDGES[j], EDGES[k], EDGES[l]);
                }
            }
        }
        CHECK.end();
    }
}
