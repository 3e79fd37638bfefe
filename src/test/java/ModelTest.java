import java.util.ArrayList;
import java.util.Arrays;
import java.util.List;

/** WordJudge against Model, over CODE that is made step by step so that most of it verifies. */
public final class ModelTest {
    private static final Check CHECK = new Check("ModelTest");
    private static final int[] KINDS = {0, 1, 2, 3, 4, 5, 6, 7, 8, 9, 10, 11, 11, 11, 12};
    private static final int[] RELATIONS = {1, 2, 3, 4, 5, 6, 7, 10, 11, 12, 13};
    private static final int[] SIZES = {1, 2, 4, 8, 8, 8};
    private static final int[] NUMBERS = {0, 1, -1, 2, 3, 7, 8, 15, 16, 31, 32, 33, 63, 64, 255, 256, 1000, -2, -8,
        100000, -100000, 65535, 65536, 0x7FFFFFFF, 0x80000000, 0x80000001};
    private static final long[] WIDES = {0, -1, Long.MAX_VALUE, Long.MIN_VALUE, Long.MIN_VALUE + 1, 1L << 32,
        (1L << 32) - 1, 1L << 31, 1L << 62, 3037000500L, -3037000500L, 0x123456789ABCDEFL};

    private static long seed = 20261115;
    private static int verified;
    private static int[] faults = new int[15];

    private static int below(int n) {
        seed = seed * 6364136223846793005L + 1442695040888963407L;
        return (int) ((seed >>> 33) % n);
    }

    private static int of(int[] list) {
        return list[below(list.length)];
    }

    private static int number() {
        return below(3) == 0 ? below(40) - 8 : below(8) == 0 ? below(1 << 30) * 4 : of(NUMBERS);
    }

    private static int register() {
        int[] some = {0, 0, 1, 2, 3, 4, 5, 6, 7, 10};
        return below(30) == 0 ? below(11) : of(some);
    }

    private static int stackOffset() {
        if (below(25) == 0) {
            return 1 - below(10);
        }
        int eight = below(8) == 0 ? -512 : -8 * (1 + below(4));
        return eight + (below(3) == 0 ? below(8) : 0);
    }

    private static long candidate() {
        int d = register();
        int s = register();
        switch (below(12)) {
            case 0:
            case 1:
                return Asm.word(of(KINDS) << 4 | (below(3) == 0 ? 4 : 7), d, 0, 0, number());
            case 2:
            case 3:
                return Asm.word(of(KINDS) << 4 | 8 | (below(3) == 0 ? 4 : 7), d, s, 0, 0);
            case 4:
                return Asm.word(below(2) == 0 ? 0xD4 : 0xDC, d, 0, 0, 16 << below(3));
            case 5:
                return Asm.word(of(RELATIONS) << 4 | (below(4) == 0 ? 6 : 5), d, 0, below(5), number());
            case 6:
                return below(6) == 0 ? Asm.go(below(3))
                        : Asm.word(of(RELATIONS) << 4 | 8 | (below(4) == 0 ? 6 : 5), d, s, below(5), 0);
            case 7:
                return Asm.read(of(SIZES), d, 1, below(20) - 1);
            case 8:
                return Asm.read(of(SIZES), d, below(4) == 0 ? s : 10, stackOffset());
            case 9:
                return Asm.store(of(SIZES), below(4) == 0 ? d : 10, stackOffset(), s);
            case 10:
                return Asm.storeImm(of(SIZES), below(4) == 0 ? d : 10, stackOffset(), number());
            default:
                return Asm.wide(d, WIDES[below(WIDES.length)]);
        }
    }

    /** What was made, with WORDS behind it that every way can end in. */
    private static long[] closed(List<Long> made) {
        long[] code = new long[made.size() + 7];
        for (int k = 0; k < made.size(); k++) {
            code[k] = made.get(k);
        }
        boolean hasNumber = new Model(withTail(code, made.size(), false), 24).fault == 0;
        return withTail(code, made.size(), !hasNumber || below(2) == 0);
    }

    private static long[] withTail(long[] code, int from, boolean sets) {
        long[] all = code.clone();
        for (int k = from; k < all.length - 1; k++) {
            all[k] = sets ? Asm.set(0, k) : Asm.alu(11, 9, k);
        }
        all[all.length - 1] = Asm.EXIT;
        return all;
    }

    private static List<Long> make(int length, int context) {
        List<Long> made = new ArrayList<>();
        for (int tries = 0; tries < 6 * length && made.size() < length; tries++) {
            int before = made.size();
            long w = candidate();
            made.add(w);
            if ((w & 255) == 0x18) {
                made.add(Asm.second(WIDES[below(WIDES.length)]));
            }
            long[] code = withTail(Arrays.copyOf(array(made), made.size() + 7), made.size(), true);
            if (new Model(code, context).fault != 0 && below(150) != 0) {
                while (made.size() > before) {
                    made.remove(made.size() - 1);
                }
            }
        }
        return made;
    }

    private static long[] array(List<Long> list) {
        long[] all = new long[list.size()];
        for (int k = 0; k < all.length; k++) {
            all[k] = list.get(k);
        }
        return all;
    }

    private static void compare(String what, WordJudge x, long[] code, int context) {
        Model m = new Model(code, context);
        CHECK.due(what + " verify", x.verify(), m.fault);
        CHECK.due(what + " fault", x.fault(), m.at);
        CHECK.due(what + " come to", x.count(3), m.comeTo());
        faults[m.fault]++;
        if (m.fault != 0) {
            CHECK.dueThrow(what + " run", IllegalStateException.class, x::run);
            return;
        }
        verified++;
        for (int k = 0; k < code.length; k++) {
            if (m.states[k] == null) {
                int word = k;
                CHECK.dueThrow(what + " state", IndexOutOfBoundsException.class, () -> x.state(word, 0, 0));
                continue;
            }
            for (int r = 0; r < 11; r++) {
                Model.Val v = m.states[k].regs[r];
                String name = what + " state of R" + r + " before " + k + " ";
                CHECK.due(name + 0, x.state(k, r, 0), v.kind());
                CHECK.due(name + 1, x.state(k, r, 1), v.lo().longValueExact());
                CHECK.due(name + 2, x.state(k, r, 2), v.hi().longValueExact());
            }
        }
        for (int i = 0; i < 4; i++) {
            runBoth(what, x, m, context);
        }
    }

    private static void runBoth(String what, WordJudge x, Model m, int context) {
        byte[] given = new byte[context];
        for (int i = 0; i < context; i++) {
            given[i] = (byte) (below(3) == 0 ? 0 : below(3) == 0 ? 255 : below(256));
        }
        for (int i = 0; i < context; i++) {
            long v = 0;
            for (int j = 0; j < 8 && i + j < context; j++) {
                v |= (given[i + j] & 255L) << 8 * j;
            }
            x.put(i, v);
        }
        CHECK.due(what + " run", x.run(), m.run(given));
        CHECK.due(what + " steps", x.count(2), m.steps);
        CHECK.due(what + " stray runs", x.count(4), 0);
    }

    private static long changed(long w) {
        switch (below(4)) {
            case 0:
                return w ^ 1L << below(64);
            case 1:
                return w ^ (long) below(256) << 8 * below(8);
            case 2:
                return candidate();
            default:
                return w & ~255L | below(256);
        }
    }

    public static void main(String[] args) {
        for (int round = 0; round < 1200; round++) {
            int context = below(4) == 0 ? below(30) : 24;
            long[] code = closed(make(4 + below(60), context));
            WordJudge x = Asm.judge(context, code);
            compare("round " + round, x, code, context);
            for (int i = 0; i < 12; i++) {
                int k = below(code.length);
                long old = code[k];
                code[k] = changed(old);
                x.word(k, code[k]);
                compare("round " + round + " change " + i, x, code, context);
                code[k] = old;
                x.word(k, old);
            }
        }
        System.out.println("ModelTest: " + verified + " verified; faults " + Arrays.toString(faults));
        for (int fault = 0; fault < faults.length; fault++) {
            CHECK.due("fault " + fault + " came up", faults[fault] > 0 ? 1 : 0, 1);
        }
        CHECK.end();
    }
}
