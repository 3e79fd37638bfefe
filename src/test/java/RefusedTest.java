import java.util.ArrayList;
import java.util.List;

/**
 * "What throws changes nothing": each call that is refused is made on one of two objects that are alike; behind it
 * they must still answer alike, whatever is asked of them.
 */
public final class RefusedTest {
    private static final Check CHECK = new Check("RefusedTest");
    private static final int MIN = Integer.MIN_VALUE;
    private static final int MAX = Integer.MAX_VALUE;
    private static final int[] ASKED_REGISTERS = {0, 1, 2, 10};
    private static final long[] CODE = {Asm.read(4, 0, 1, 2), Asm.wide(2, -1), 0, Asm.when(2, 0, 9, 1),
        Asm.alu(0, 0, 3), Asm.store(8, 10, -8, 0), Asm.go(1), Asm.set(0, 0), Asm.read(8, 0, 10, -8), Asm.EXIT};
    private static final int SECOND = 2;
    private static final int NOT_COME_TO = 7;

    /** A call that is refused, and what it throws. */
    private record Refused(String name, Class<? extends RuntimeException> thrown, Act act) {
    }

    private interface Act {
        void on(WordJudge x);
    }

    /** How an object has come to be when a call is refused. */
    private enum Scene {
        NEW, CONTEXT_ALONE, FULL_CONTEXT, UNVERIFIED, VERIFIED, VERIFIED_WITHOUT_CONTEXT, RUN, RUN_THEN_CHANGED,
        FORM_FAULT, STATE_FAULT, FAULT_THEN_RIGHT, CUT_TO_NONE, CUT_THEN_VERIFIED, OTHER_CONTEXT;

        WordJudge make() {
            WordJudge x = new WordJudge();
            switch (this) {
                case NEW:
                    return x;
                case CONTEXT_ALONE:
                    fill(x, 6);
                    return x;
                case FULL_CONTEXT:
                    fill(x, 256);
                    Asm.load(x, CODE);
                    x.verify();
                    return x;
                case VERIFIED_WITHOUT_CONTEXT:
                    Asm.load(x, Asm.set(0, 4), Asm.wide(2, 1), 0, Asm.EXIT);
                    x.verify();
                    return x;
                default:
                    fill(x, 9);
                    Asm.load(x, CODE);
                    return this == UNVERIFIED ? x : goOn(x);
            }
        }

        private WordJudge goOn(WordJudge x) {
            x.verify();
            switch (this) {
                case RUN:
                    x.run();
                    break;
                case RUN_THEN_CHANGED:
                    x.run();
                    x.word(4, Asm.alu(0, 0, 5));
                    break;
                case FORM_FAULT:
                    x.word(5, 0xFF);
                    x.verify();
                    break;
                case STATE_FAULT:
                    x.run();
                    x.word(4, Asm.alu(0, 8, 5));
                    x.verify();
                    break;
                case FAULT_THEN_RIGHT:
                    x.word(4, Asm.alu(0, 8, 5));
                    x.verify();
                    x.word(4, Asm.alu(0, 0, 1));
                    x.verify();
                    break;
                case CUT_TO_NONE:
                    x.run();
                    x.cut(0);
                    break;
                case CUT_THEN_VERIFIED:
                    x.cut(6);
                    x.word(5, Asm.EXIT);
                    x.verify();
                    break;
                case OTHER_CONTEXT:
                    x.context(5);
                    x.verify();
                    break;
                default:
                    break;
            }
            return x;
        }
    }

    private static void fill(WordJudge x, int n) {
        x.context(n);
        for (int k = 0; k < n; k += 8) {
            x.put(k, 0x0102030405060708L + k);
        }
    }

    private static String answer(java.util.function.LongSupplier call) {
        try {
            return call.getAsLong() + " ";
        } catch (RuntimeException e) {
            return e.getClass().getSimpleName() + " ";
        }
    }

    /** All that an object answers; the last of it changes the object. */
    private static String answers(WordJudge x) {
        StringBuilder all = new StringBuilder();
        for (int what = 0; what < 5; what++) {
            int w = what;
            all.append(answer(() -> x.count(w)));
        }
        all.append(answer(x::fault));
        appendStates(all, x);
        all.append("run ").append(answer(x::run)).append(answer(() -> x.count(2)));
        all.append("verify ").append(answer(x::verify)).append(answer(x::fault)).append(answer(() -> x.count(3)));
        all.append("run ").append(answer(x::run)).append(answer(() -> x.count(2))).append(answer(() -> x.count(4)));
        all.append("word ").append(answer(() -> x.word(x.count(0), Asm.EXIT))).append(answer(x::verify));
        appendOctets(all, x);
        return all.toString();
    }

    private static void appendStates(StringBuilder all, WordJudge x) {
        for (int k = 0; k < x.count(0); k++) {
            for (int r : ASKED_REGISTERS) {
                for (int what = 0; what < 3; what++) {
                    int word = k;
                    int w = what;
                    all.append(answer(() -> x.state(word, r, w)));
                }
            }
        }
    }

    /** The CONTEXT, and zeros behind it where it is made longer. */
    private static void appendOctets(StringBuilder all, WordJudge x) {
        all.append("octets ");
        int length = x.count(1);
        x.context(Math.min(256, length + 16));
        for (int k = 0; k + 8 <= x.count(1); k += 8) {
            Asm.load(x, Asm.read(8, 0, 1, k), Asm.EXIT);
            all.append(answer(x::verify)).append(answer(x::run));
        }
    }

    private static boolean isVerified(Scene scene) {
        return switch (scene) {
            case FULL_CONTEXT, VERIFIED, VERIFIED_WITHOUT_CONTEXT, RUN, FAULT_THEN_RIGHT, CUT_THEN_VERIFIED -> true;
            default -> false;
        };
    }

    private static List<Refused> refusedOf(Scene scene) {
        WordJudge x = scene.make();
        int words = x.count(0);
        int octets = x.count(1);
        List<Refused> all = new ArrayList<>();
        for (int k : new int[] {MIN, -1, words + 1, words + 2, 1024, 1025, MAX}) {
            all.add(new Refused("word " + k, IndexOutOfBoundsException.class, y -> y.word(k, Asm.EXIT)));
        }
        for (int n : new int[] {MIN, -1, words + 1, 1024, 1025, MAX}) {
            all.add(new Refused("cut " + n, IndexOutOfBoundsException.class, y -> y.cut(n)));
        }
        for (int n : new int[] {MIN, -1, 257, 512, MAX}) {
            all.add(new Refused("context " + n, IllegalArgumentException.class, y -> y.context(n)));
        }
        for (int k : new int[] {MIN, -8, -1, octets, octets + 1, 256, MAX}) {
            all.add(new Refused("put " + k, IndexOutOfBoundsException.class, y -> y.put(k, -1)));
        }
        for (int what : new int[] {MIN, -1, 5, MAX}) {
            all.add(new Refused("count " + what, IllegalArgumentException.class, y -> y.count(what)));
        }
        if (words == 0) {
            all.add(new Refused("verify", IllegalStateException.class, WordJudge::verify));
        }
        addRefusedStates(all, isVerified(scene), words);
        return all;
    }

    private static void addRefusedStates(List<Refused> all, boolean verified, int words) {
        for (int r : new int[] {MIN, -1, 11, MAX}) {
            all.add(new Refused("state of R" + r, IllegalArgumentException.class, y -> y.state(0, r, 0)));
        }
        for (int what : new int[] {MIN, -1, 3, MAX}) {
            all.add(new Refused("state, what " + what, IllegalArgumentException.class, y -> y.state(0, 0, what)));
        }
        if (verified) {
            int notCome = words > NOT_COME_TO ? NOT_COME_TO : words;
            for (int k : new int[] {MIN, -1, SECOND, notCome, words, 1024, MAX}) {
                all.add(new Refused("state before " + k, IndexOutOfBoundsException.class, y -> y.state(k, 0, 0)));
            }
        } else {
            for (int k : new int[] {MIN, -1, 0, words, 1024, MAX}) {
                all.add(new Refused("state before " + k, IllegalStateException.class, y -> y.state(k, 0, 0)));
            }
            all.add(new Refused("run", IllegalStateException.class, WordJudge::run));
        }
    }

    private static void dueSame(String what, WordJudge x, String want) {
        String got = answers(x);
        if (!got.equals(want)) {
            System.out.println(what + ": answers " + got + "\n  due " + want);
        }
        CHECK.due(what + " changed nothing", got.equals(want) ? 1 : 0, 1);
    }

    public static void main(String[] args) {
        for (Scene scene : Scene.values()) {
            String want = answers(scene.make());
            List<Refused> refused = refusedOf(scene);
            WordJudge bearsAll = scene.make();
            for (Refused call : refused) {
                String what = scene + ", " + call.name;
                WordJudge x = scene.make();
                CHECK.dueThrow(what, call.thrown, () -> call.act.on(x));
                dueSame(what, x, want);
                CHECK.dueThrow(what + ", one behind the other", call.thrown, () -> call.act.on(bearsAll));
            }
            dueSame(scene + ", all of them", bearsAll, want);
        }
        CHECK.end();
    }
}
