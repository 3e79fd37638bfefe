/** Promises 1 to 10, each with its edges and what it throws. */
public final class PromisesTest {
    private static final Check CHECK = new Check("PromisesTest");
    private static final Class<IndexOutOfBoundsException> INDEX = IndexOutOfBoundsException.class;
    private static final Class<IllegalArgumentException> ARGUMENT = IllegalArgumentException.class;
    private static final Class<IllegalStateException> STATE = IllegalStateException.class;

    private static void due(String what, long got, long want) {
        CHECK.due(what, got, want);
    }

    private static WordJudge verified(int context, long... words) {
        WordJudge x = Asm.judge(context, words);
        due("verify of what is right", x.verify(), 0);
        return x;
    }

    /** 1: verified, 0: not. */
    private static int isVerified(WordJudge x) {
        try {
            x.run();
            return 1;
        } catch (IllegalStateException e) {
            return 0;
        }
    }

    private static void promise1() {
        WordJudge x = new WordJudge();
        for (int what = 0; what < 5; what++) {
            due("new: count " + what, x.count(what), 0);
        }
        due("new: fault", x.fault(), -1);
        CHECK.dueThrow("new: verify", STATE, x::verify);
        CHECK.dueThrow("new: run", STATE, x::run);
        CHECK.dueThrow("new: state", STATE, () -> x.state(0, 0, 0));
        CHECK.dueThrow("new: cut 1", INDEX, () -> x.cut(1));
        CHECK.dueThrow("new: put 0", INDEX, () -> x.put(0, 0));
        x.cut(0);
        due("new: fault behind what threw", x.fault(), -1);
    }

    private static void promise2() {
        WordJudge x = new WordJudge();
        CHECK.dueThrow("word behind none", INDEX, () -> x.word(1, 0));
        CHECK.dueThrow("word -1", INDEX, () -> x.word(-1, 0));
        CHECK.dueThrow("word least", INDEX, () -> x.word(Integer.MIN_VALUE, 0));
        CHECK.dueThrow("word greatest", INDEX, () -> x.word(Integer.MAX_VALUE, 0));
        due("word 0", x.word(0, Asm.set(0, 5)), 1);
        due("word 1", x.word(1, Asm.set(0, 6)), 2);
        due("word 2", x.word(2, Asm.EXIT), 3);
        due("word 1 again", x.word(1, Asm.alu(0, 0, 6)), 3);
        CHECK.dueThrow("word 4 of 3", INDEX, () -> x.word(4, 0));
        due("verify", x.verify(), 0);
        due("run", x.run(), 11);
        due("the same word again", x.word(2, Asm.EXIT), 3);
        due("verified behind word", isVerified(x), 0);
        due("verify again", x.verify(), 0);
        CHECK.dueThrow("word 4 of 3 again", INDEX, () -> x.word(4, 0));
        due("verified behind word that threw", isVerified(x), 1);

        WordJudge full = new WordJudge();
        for (int k = 0; k < 1024; k++) {
            due("word of many", full.word(k, Asm.set(0, k)), k + 1);
        }
        CHECK.dueThrow("word 1024", INDEX, () -> full.word(1024, 0));
        due("no more than 1024", full.count(0), 1024);
        due("last no exit", full.verify(), 4);
        due("last no exit: where", full.fault(), 1023);
        due("word 1023", full.word(1023, Asm.EXIT), 1024);
        due("verify of 1024", full.verify(), 0);
        due("run of 1024", full.run(), 1022);
        due("steps of 1024", full.count(2), 1024);
        due("come to of 1024", full.count(3), 1024);
    }

    private static void promise3() {
        WordJudge x = verified(0, Asm.set(0, 1), Asm.EXIT, Asm.set(0, 2), Asm.EXIT);
        CHECK.dueThrow("cut 5 of 4", INDEX, () -> x.cut(5));
        CHECK.dueThrow("cut -1", INDEX, () -> x.cut(-1));
        due("verified behind cut that threw", isVerified(x), 1);
        x.cut(4);
        due("cut to all: words", x.count(0), 4);
        due("cut to all: verified", isVerified(x), 0);
        x.cut(2);
        due("cut: words", x.count(0), 2);
        due("verify of the first ones", x.verify(), 0);
        due("run of the first ones", x.run(), 1);
        CHECK.dueThrow("cut 3 of 2", INDEX, () -> x.cut(3));
        CHECK.dueThrow("word behind a cut", INDEX, () -> x.word(3, 0));
        x.cut(1);
        due("no exit", x.verify(), 4);
        x.cut(0);
        due("none", x.count(0), 0);
        CHECK.dueThrow("verify of none", STATE, x::verify);
        due("fault stays where verify threw", x.fault(), 0);
    }

    private static void promise4() {
        WordJudge x = verified(8, Asm.read(8, 0, 1, 0), Asm.EXIT);
        CHECK.dueThrow("context 257", ARGUMENT, () -> x.context(257));
        CHECK.dueThrow("context -1", ARGUMENT, () -> x.context(-1));
        due("length stays", x.count(1), 8);
        x.put(0, -1);
        due("all ones", x.run(), -1);
        x.context(8);
        due("the same length: verified", isVerified(x), 1);
        due("the same length: what was there stays", x.run(), -1);
        x.context(3);
        due("another length: verified", isVerified(x), 0);
        due("shorter: a fault", x.verify(), 11);
        x.context(8);
        due("longer: verify", x.verify(), 0);
        due("what was beyond is gone", x.run(), 0xFFFFFF);
        x.context(256);
        due("256", x.count(1), 256);
        due("longer still: verified", isVerified(x), 0);
        due("longer still: verify", x.verify(), 0);
        due("longer still: what was there stays", x.run(), 0xFFFFFF);
        x.context(0);
        due("empty", x.count(1), 0);
        due("empty: a fault", x.verify(), 11);
    }

    private static void promise5() {
        WordJudge x = verified(12, Asm.read(8, 0, 1, 4), Asm.EXIT);
        CHECK.dueThrow("put 12 of 12", INDEX, () -> x.put(12, 0));
        CHECK.dueThrow("put -1", INDEX, () -> x.put(-1, 0));
        CHECK.dueThrow("put greatest", INDEX, () -> x.put(Integer.MAX_VALUE, 0));
        x.put(4, 0x1122334455667788L);
        due("verified behind put", isVerified(x), 1);
        due("the lowest first", x.run(), 0x1122334455667788L);
        x.put(3, 0x99);
        due("eight octets", x.run(), 0x1100000000000000L);
        x.put(11, 0xAABBCCDDL);
        due("beyond the end: none", x.run(), 0xDD00000000000000L);
        x.context(20);
        due("verify", x.verify(), 0);
        x.word(0, Asm.read(8, 0, 1, 12));
        due("verify", x.verify(), 0);
        due("beyond the end nothing came", x.run(), 0);
    }

    private static void promise6and7() {
        WordJudge x = Asm.judge(0, Asm.set(0, 1), Asm.set(3, 2), Asm.EXIT);
        due("no verify yet: fault", x.fault(), -1);
        due("verify", x.verify(), 0);
        due("none: fault", x.fault(), -1);
        x.word(1, Asm.alu(0, 4, 1));
        due("fault of the latest verify", x.fault(), -1);
        due("verify", x.verify(), 6);
        due("fault", x.fault(), 1);
        due("verified", isVerified(x), 0);
        due("come to", x.count(3), 0);
        x.word(1, Asm.set(4, 1));
        due("fault stays until verify", x.fault(), 1);
        due("verify", x.verify(), 0);
        due("fault is gone", x.fault(), -1);
        x.word(0, 0xFF);
        due("verify", x.verify(), 1);
        due("fault at 0", x.fault(), 0);
        due("verified before, not now", isVerified(x), 0);
        dueNothingLeft();
        // The FORM of all WORDS comes before the STATES of any.
        Asm.load(x, Asm.alu(0, 4, 1), Asm.set(0, 1), 0xFF, Asm.EXIT);
        due("form first", x.verify(), 1);
        due("form first: where", x.fault(), 2);
    }

    /** A verify begins anew, whatever the one before it had found. */
    private static void dueNothingLeft() {
        WordJudge x = verified(8, Asm.set(0, 1), Asm.set(2, 5), Asm.store(8, 10, -8, 2), Asm.EXIT);
        due("come to", x.count(3), 4);
        Asm.load(x, Asm.set(0, 1), Asm.alu(0, 2, 1), Asm.EXIT);
        due("registers of the verify before", x.verify(), 6);
        Asm.load(x, Asm.set(0, 1), Asm.read(8, 2, 10, -8), Asm.EXIT);
        due("octets of the verify before", x.verify(), 12);
        Asm.load(x, Asm.set(0, 1), Asm.go(1), Asm.alu(0, 2, 1), Asm.EXIT);
        due("ways of the verify before", x.verify(), 0);
        due("come to again", x.count(3), 3);
    }

    private static void promise8() {
        WordJudge x = verified(16, Asm.set(0, -7), Asm.go(1), Asm.set(0, 0), Asm.wide(2, 1L << 40),
            Asm.second(1L << 40), Asm.move(3, 10), Asm.alu(0, 3, -16), Asm.read(1, 4, 1, 0), Asm.aluS(0, 1, 4),
            Asm.EXIT);
        long[][] want = {{0, 0, 0, 0, 0}, {0, 1, 2, 0, 0}, {0, 10, 3, 0, 0}, {1, 0, 1, -7, -7},
            {5, 2, 1, 1L << 40, 1L << 40},
            {7, 3, 3, -16, -16}, {8, 4, 1, 0, 255}, {9, 1, 2, 0, 255}, {9, 9, 0, 0, 0}};
        for (long[] w : want) {
            for (int what = 0; what < 3; what++) {
                due("state of R" + w[1] + " before " + w[0], x.state((int) w[0], (int) w[1], what), w[2 + what]);
            }
        }
        CHECK.dueThrow("what 3", ARGUMENT, () -> x.state(0, 0, 3));
        CHECK.dueThrow("what -1", ARGUMENT, () -> x.state(0, 0, -1));
        CHECK.dueThrow("register 11", ARGUMENT, () -> x.state(0, 11, 0));
        CHECK.dueThrow("register -1", ARGUMENT, () -> x.state(0, -1, 0));
        CHECK.dueThrow("word -1", INDEX, () -> x.state(-1, 0, 0));
        CHECK.dueThrow("word behind the last", INDEX, () -> x.state(10, 0, 0));
        CHECK.dueThrow("word 1024", INDEX, () -> x.state(1024, 0, 0));
        CHECK.dueThrow("word greatest", INDEX, () -> x.state(Integer.MAX_VALUE, 0, 0));
        CHECK.dueThrow("second word", INDEX, () -> x.state(4, 0, 0));
        CHECK.dueThrow("word that is not come to", INDEX, () -> x.state(2, 0, 0));
        CHECK.dueThrow("argument first", ARGUMENT, () -> x.state(-1, 11, 0));
        x.word(0, Asm.set(0, 1));
        CHECK.dueThrow("not verified", STATE, () -> x.state(0, 0, 0));
        CHECK.dueThrow("not verified comes before the word", STATE, () -> x.state(-1, 0, 0));
        CHECK.dueThrow("argument comes before not verified", ARGUMENT, () -> x.state(0, 0, 3));
        x.cut(9);
        x.word(8, Asm.EXIT);
        due("verify of fewer", x.verify(), 0);
        CHECK.dueThrow("word of the code before", INDEX, () -> x.state(9, 0, 0));
    }

    private static void promise9() {
        WordJudge x = new WordJudge();
        x.context(8);
        x.put(0, 41);
        x.word(0, 0x0000000000001079L);
        x.word(1, 0x0000000100000007L);
        x.word(2, 0x0000000000000095L);
        CHECK.dueThrow("run before verify", STATE, x::run);
        due("steps of no run", x.count(2), 0);
        due("verify", x.verify(), 0);
        due("run", x.run(), 42);
        due("run again", x.run(), 42);
        x.put(0, -1);
        due("run with other octets", x.run(), 0);
        // What a run leaves on the STACK and in registers is nothing to the next one.
        Asm.load(x, Asm.read(8, 2, 1, 0), Asm.set(0, 1), Asm.when(1, 2, 0, 3), Asm.store(8, 10, -8, 2),
            Asm.read(8, 0, 10, -8), Asm.alu(0, 0, 1), Asm.EXIT);
        due("verify", x.verify(), 0);
        x.put(0, 7);
        due("run stores", x.run(), 8);
        x.put(0, 0);
        due("run goes past", x.run(), 1);
        due("no run strayed", x.count(4), 0);
    }

    private static void promise10() {
        WordJudge x = verified(5, Asm.read(1, 2, 1, 0), Asm.set(0, 1), Asm.when(1, 2, 0, 2), Asm.wide(0, -1),
            Asm.second(-1), Asm.EXIT, Asm.EXIT);
        due("words", x.count(0), 7);
        due("octets", x.count(1), 5);
        due("steps of no run", x.count(2), 0);
        due("come to", x.count(3), 5);
        due("stray runs", x.count(4), 0);
        due("run past", x.run(), 1);
        due("steps", x.count(2), 4);
        x.put(0, 1);
        due("run through", x.run(), -1);
        due("steps: 0x18 is one, EXIT is one", x.count(2), 5);
        CHECK.dueThrow("count 5", ARGUMENT, () -> x.count(5));
        CHECK.dueThrow("count -1", ARGUMENT, () -> x.count(-1));
        x.word(6, 0);
        due("come to of what is not verified", x.count(3), 0);
        due("steps of the latest run stay", x.count(2), 5);
        CHECK.dueThrow("run", STATE, x::run);
        due("steps stay where run threw", x.count(2), 5);
        x.verify();
        due("come to of what has a fault", x.count(3), 0);
        due("stray runs at last", x.count(4), 0);
    }

    public static void main(String[] args) {
        promise1();
        promise2();
        promise3();
        promise4();
        promise5();
        promise6and7();
        promise8();
        promise9();
        promise10();
        CHECK.end();
    }
}
