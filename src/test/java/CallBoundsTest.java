/** Promises 1 to 10: just inside, at and just outside of each bound that a sentence of them names. */
public final class CallBoundsTest {
    private static final Check CHECK = new Check("CallBoundsTest");
    private static final Class<IndexOutOfBoundsException> INDEX = IndexOutOfBoundsException.class;
    private static final Class<IllegalArgumentException> ARGUMENT = IllegalArgumentException.class;
    private static final Class<IllegalStateException> STATE = IllegalStateException.class;
    private static final int[] FAR = {Integer.MIN_VALUE, Integer.MIN_VALUE + 1, -1024, -2, -1};
    private static final int[] BEYOND = {1 << 16, 1 << 30, Integer.MAX_VALUE - 1, Integer.MAX_VALUE};

    private static void due(String what, long got, long want) {
        CHECK.due(what, got, want);
    }

    /** 1: verified, 0: not. */
    private static int isVerified(WordJudge x) {
        try {
            x.run();
            return 1;
        } catch (IllegalStateException e) {
            return 0;
        }
    }

    private static WordJudge verified(int context, long... words) {
        WordJudge x = Asm.judge(context, words);
        due("verify of what is right", x.verify(), 0);
        return x;
    }

    /** So many WORDS: R0 is the number of the last one before EXIT. */
    private static WordJudge ofLength(int n) {
        WordJudge x = new WordJudge();
        for (int k = 0; k < n; k++) {
            due("word " + k, x.word(k, k == n - 1 ? Asm.EXIT : Asm.set(0, k)), k + 1);
        }
        return x;
    }

    /** The CONTEXT's octets as numbers; the CODE is another one behind this. */
    private static void dueOctets(String what, WordJudge x, int... want) {
        due(what + ": how many", x.count(1), want.length);
        for (int i = 0; i < want.length; i++) {
            Asm.load(x, Asm.read(1, 0, 1, i), Asm.EXIT);
            due(what + ": verify", x.verify(), 0);
            due(what + ": octet " + i, x.run(), want[i]);
        }
    }

    // "No CODE, an empty CONTEXT."
    private static void promise1() {
        WordJudge x = new WordJudge();
        due("no CODE", x.count(0), 0);
        due("an empty CONTEXT", x.count(1), 0);
        due("no STEPS", x.count(2), 0);
        due("no WORDS come to", x.count(3), 0);
        due("no runs", x.count(4), 0);
        x.cut(0);
        x.context(0);
        due("still no CODE", x.count(0), 0);
        CHECK.dueThrow("cut of nothing", INDEX, () -> x.cut(1));
        CHECK.dueThrow("no octet to put", INDEX, () -> x.put(0, 1));
        due("the first WORD", x.word(0, Asm.EXIT), 1);
        due("R0 has nothing at first", x.verify(), 14);
        WordJudge other = new WordJudge();
        due("objects have nothing in common", other.count(0), 0);
    }

    // "IndexOutOfBoundsException: k is below 0, above how many there are, or 1024."
    private static void promise2() {
        for (int n : new int[] {0, 1, 2, 7, 1022, 1023, 1024}) {
            WordJudge x = ofLength(n);
            for (int k : FAR) {
                CHECK.dueThrow("word " + k + " of " + n, INDEX, () -> x.word(k, Asm.EXIT));
            }
            CHECK.dueThrow("word just above how many", INDEX, () -> x.word(n + 1, Asm.EXIT));
            CHECK.dueThrow("word 1024", INDEX, () -> x.word(1024, Asm.EXIT));
            CHECK.dueThrow("word 1025", INDEX, () -> x.word(1025, Asm.EXIT));
            for (int k : BEYOND) {
                CHECK.dueThrow("word " + k + " of " + n, INDEX, () -> x.word(k, Asm.EXIT));
            }
            due("how many", x.count(0), n);
            if (n > 0) {
                due("word 0 again", x.word(0, Asm.EXIT), n);
                due("the last word again", x.word(n - 1, Asm.EXIT), n);
            }
            if (n < 1024) {
                due("word at how many there are", x.word(n, Asm.EXIT), n + 1);
            }
        }
        promise2Verified();
        WordJudge most = ofLength(1024);
        due("1024 WORDS", most.verify(), 0);
        due("1024 WORDS: run", most.run(), 1022);
        due("1024 WORDS: STEPS", most.count(2), 1024);
        due("1024 WORDS: come to", most.count(3), 1024);
        due("1024 WORDS: the last STATE", most.state(1023, 0, 1), 1022);
        CHECK.dueThrow("1024 WORDS: none behind", INDEX, () -> most.state(1024, 0, 1));
    }

    // "WORD k is w ... It is not verified any more."
    private static void promise2Verified() {
        for (int k = 0; k <= 3; k++) {
            long[] words = {Asm.set(0, 7), Asm.alu(0, 0, 1), Asm.EXIT};
            WordJudge x = verified(0, words);
            due("how many", x.word(k, k < 3 ? words[k] : Asm.EXIT), Math.max(3, k + 1));
            due("word " + k + ": verified", isVerified(x), 0);
            CHECK.dueThrow("word " + k + ": state", STATE, () -> x.state(0, 0, 0));
            due("word " + k + ": come to", x.count(3), 0);
            due("word " + k + ": verify", x.verify(), 0);
            due("word " + k + ": run", x.run(), 8);
        }
        for (int bit = 0; bit < 64; bit++) {
            WordJudge x = verified(0, Asm.wide(0, 0), 0, Asm.EXIT);
            x.word(1, 1L << bit);
            due("bit " + bit + " of a WORD counts", x.verify(), bit < 32 ? 3 : 0);
        }
    }

    // "IndexOutOfBoundsException: n is below 0 or above how many there are."
    private static void promise3() {
        for (int n : new int[] {0, 1, 2, 9}) {
            WordJudge x = ofLength(n);
            for (int k : FAR) {
                CHECK.dueThrow("cut " + k + " of " + n, INDEX, () -> x.cut(k));
            }
            CHECK.dueThrow("cut to just above how many", INDEX, () -> x.cut(n + 1));
            for (int k : BEYOND) {
                CHECK.dueThrow("cut " + k + " of " + n, INDEX, () -> x.cut(k));
            }
            x.cut(n);
            due("cut to how many there are", x.count(0), n);
            for (int left = n - 1; left >= 0; left--) {
                int gone = left + 1;
                x.cut(left);
                due("cut by one", x.count(0), left);
                CHECK.dueThrow("cut back", INDEX, () -> x.cut(gone));
                CHECK.dueThrow("word behind the end", INDEX, () -> x.word(gone, Asm.EXIT));
            }
            CHECK.dueThrow("verify of none", STATE, x::verify);
        }
        // "There are n WORDS (the first ones): it is not verified any more."
        for (int n = 0; n <= 4; n++) {
            WordJudge x = verified(0, Asm.set(0, 1), Asm.EXIT, Asm.set(0, 2), Asm.EXIT);
            x.cut(n);
            due("cut " + n + ": verified", isVerified(x), 0);
            due("cut " + n + ": come to", x.count(3), 0);
        }
        WordJudge x = verified(0, Asm.set(0, 1), Asm.alu(0, 0, 2), Asm.alu(0, 0, 4), Asm.EXIT);
        x.cut(2);
        due("behind the first ones", x.word(2, Asm.EXIT), 3);
        due("the first ones stay", x.verify(), 0);
        due("the first ones run", x.run(), 3);
        due("what was cut off does not come back", x.word(3, Asm.EXIT), 4);
    }

    // "IllegalArgumentException: n not 0..256."
    private static void promise4() {
        for (int was : new int[] {0, 1, 255, 256}) {
            WordJudge x = new WordJudge();
            x.context(was);
            for (int n : FAR) {
                CHECK.dueThrow("context " + n, ARGUMENT, () -> x.context(n));
            }
            CHECK.dueThrow("context 257", ARGUMENT, () -> x.context(257));
            for (int n : BEYOND) {
                CHECK.dueThrow("context " + n, ARGUMENT, () -> x.context(n));
            }
            due("the length stays", x.count(1), was);
            for (int n : new int[] {0, 1, 2, 127, 128, 255, 256}) {
                x.context(n);
                due("context " + n, x.count(1), n);
            }
        }
        promise4Octets();
        // "What was verified is not any more, if it is another length."
        for (int n : new int[] {0, 7, 8, 9, 256}) {
            WordJudge x = verified(8, Asm.read(8, 0, 1, 0), Asm.EXIT);
            x.context(n);
            due("context " + n + " of 8: verified", isVerified(x), n == 8 ? 1 : 0);
            due("context " + n + " of 8: come to", x.count(3), n == 8 ? 2 : 0);
            due("context " + n + " of 8: verify", x.verify(), n < 8 ? 11 : 0);
        }
        WordJudge back = verified(8, Asm.set(0, 1), Asm.EXIT);
        back.context(9);
        back.context(8);
        due("the old length again is not verified", isVerified(back), 0);
        WordJudge empty = verified(0, Asm.set(0, 1), Asm.EXIT);
        empty.context(0);
        due("empty stays empty: verified", isVerified(empty), 1);
    }

    // "The CONTEXT has n octets, 0 where none were (what was beyond is gone)."
    private static void promise4Octets() {
        WordJudge x = new WordJudge();
        x.context(4);
        dueOctets("new ones", x, 0, 0, 0, 0);
        x.put(0, 0x44332211);
        x.context(5);
        dueOctets("one more", x, 0x11, 0x22, 0x33, 0x44, 0);
        x.context(4);
        x.put(3, 0x55);
        x.context(3);
        x.context(6);
        dueOctets("one less, then more", x, 0x11, 0x22, 0x33, 0, 0, 0);
        x.context(1);
        x.context(2);
        dueOctets("the first one alone", x, 0x11, 0);
        x.context(0);
        x.context(2);
        dueOctets("none", x, 0, 0);
        WordJudge most = new WordJudge();
        most.context(256);
        most.put(255, 0x99);
        most.put(254, 0x7788);
        most.context(255);
        most.context(256);
        Asm.load(most, Asm.read(2, 0, 1, 254), Asm.EXIT);
        due("the last of 256: verify", most.verify(), 0);
        due("the last of 256 is gone, the one before it not", most.run(), 0x88);
    }

    // "Eight octets of the CONTEXT from k on ... (beyond its end: none)"; "k is not one of its octets."
    private static void promise5() {
        for (int length : new int[] {0, 1, 7, 8, 9, 255, 256}) {
            WordJudge x = new WordJudge();
            x.context(length);
            for (int k : FAR) {
                CHECK.dueThrow("put " + k + " of " + length, INDEX, () -> x.put(k, -1));
            }
            CHECK.dueThrow("put just behind the end", INDEX, () -> x.put(length, -1));
            CHECK.dueThrow("put farther behind the end", INDEX, () -> x.put(length + 1, -1));
            CHECK.dueThrow("put 256", INDEX, () -> x.put(256, -1));
            for (int k : BEYOND) {
                CHECK.dueThrow("put " + k + " of " + length, INDEX, () -> x.put(k, -1));
            }
            if (length > 0) {
                x.put(0, -1);
                x.put(length - 1, -1);
            }
        }
        int[] octets = {1, 2, 3, 4, 5, 6, 7, 8};
        for (int k = 0; k < 12; k++) {
            WordJudge x = new WordJudge();
            x.context(12);
            x.put(k, 0x0807060504030201L);
            x.context(20);
            int[] want = new int[20];
            for (int i = k; i < 12 && i < k + 8; i++) {
                want[i] = octets[i - k];
            }
            dueOctets("put " + k + " of 12", x, want);
        }
        WordJudge over = new WordJudge();
        over.context(10);
        over.put(0, -1);
        over.put(2, -1);
        over.put(1, 0);
        dueOctets("just the eight", over, 255, 0, 0, 0, 0, 0, 0, 0, 0, 255);
        // "what is verified stays so"
        WordJudge x = verified(9, Asm.read(8, 0, 1, 1), Asm.EXIT);
        x.put(1, Long.MIN_VALUE);
        due("verified behind put: come to", x.count(3), 2);
        due("verified behind put: run", x.run(), Long.MIN_VALUE);
        x.put(8, 0x7F);
        due("the last octet", x.run(), 0x7F00000000000000L);
        WordJudge not = Asm.judge(9, Asm.set(0, 1), Asm.EXIT);
        not.put(0, 1);
        due("put does not verify", isVerified(not), 0);
    }

    // "its FAULT (it is not verified then), 0 if it has none. IllegalStateException: there are no WORDS."
    private static void promise6() {
        WordJudge x = new WordJudge();
        CHECK.dueThrow("no WORDS", STATE, x::verify);
        x.word(0, Asm.EXIT);
        due("one WORD", x.verify(), 14);
        due("one WORD: verified", isVerified(x), 0);
        x.word(0, Asm.set(0, 3));
        due("one WORD that is no EXIT", x.verify(), 4);
        x.word(1, Asm.EXIT);
        due("two WORDS", x.verify(), 0);
        due("two WORDS: verified", isVerified(x), 1);
        due("verify once more", x.verify(), 0);
        due("verify once more: run", x.run(), 3);
        x.word(1, Asm.word(0x95, 0, 0, 0, 1));
        due("a FAULT behind none", x.verify(), 3);
        due("a FAULT behind none: verified", isVerified(x), 0);
        CHECK.dueThrow("a FAULT behind none: state", STATE, () -> x.state(0, 0, 0));
        x.cut(0);
        CHECK.dueThrow("no WORDS any more", STATE, x::verify);
    }

    // "The WORD of the FAULT of the latest verify(); -1 if it found none, or there was no verify()."
    private static void promise7() {
        WordJudge x = new WordJudge();
        due("no verify", x.fault(), -1);
        CHECK.dueThrow("verify of none", STATE, x::verify);
        due("a refused verify", x.fault(), -1);
        for (int at = 0; at < 5; at++) {
            long[] words = {Asm.set(0, 0), Asm.set(0, 1), Asm.set(0, 2), Asm.set(0, 3), Asm.EXIT};
            words[at] = 0;
            Asm.load(x, words);
            due("a FORM FAULT", x.verify(), 1);
            due("a FORM FAULT: where", x.fault(), at);
        }
        for (int at = 0; at < 4; at++) {
            long[] words = {Asm.set(0, 0), Asm.set(0, 1), Asm.set(0, 2), Asm.set(0, 3), Asm.EXIT};
            words[at] = Asm.alu(0, 7, 1);
            Asm.load(x, words);
            due("a FAULT of STATES", x.verify(), 6);
            due("a FAULT of STATES: where", x.fault(), at);
        }
        Asm.load(x, Asm.set(2, 1), Asm.EXIT);
        due("a FAULT of the last WORD", x.verify(), 14);
        due("a FAULT of the last WORD: where", x.fault(), 1);
        x.word(0, Asm.set(0, 1));
        x.context(5);
        x.put(0, 1);
        due("until the next verify", x.fault(), 1);
        x.cut(0);
        CHECK.dueThrow("verify of none", STATE, x::verify);
        due("a refused verify found nothing", x.fault(), 1);
        Asm.load(x, Asm.set(0, 1), Asm.EXIT);
        due("verify", x.verify(), 0);
        due("none any more", x.fault(), -1);
        WordJudge most = ofLength(1024);
        most.word(1023, Asm.set(0, 0));
        due("the last WORD that can be", most.verify(), 4);
        due("the last WORD that can be: where", most.fault(), 1023);
    }

    // "IllegalArgumentException: what, r. IllegalStateException: it is not verified. IndexOutOfBoundsException:
    // no such WORD, a second one, or one that is not come to."
    private static void promise8() {
        WordJudge x = verified(8, Asm.wide(0, 1L << 35), Asm.second(1L << 35), Asm.go(1), Asm.set(0, 0),
            Asm.read(2, 3, 1, 0), Asm.EXIT);
        for (int bad : new int[] {Integer.MIN_VALUE, -2, -1, 3, 4, Integer.MAX_VALUE}) {
            CHECK.dueThrow("what " + bad, ARGUMENT, () -> x.state(0, 0, bad));
            CHECK.dueThrow("what " + bad + " before no such WORD", ARGUMENT, () -> x.state(-1, 0, bad));
        }
        for (int bad : new int[] {Integer.MIN_VALUE, -2, -1, 11, 12, 15, 16, Integer.MAX_VALUE}) {
            CHECK.dueThrow("r " + bad, ARGUMENT, () -> x.state(0, bad, 0));
            CHECK.dueThrow("r " + bad + " before no such WORD", ARGUMENT, () -> x.state(6, bad, 0));
            CHECK.dueThrow("r " + bad + " before a second one", ARGUMENT, () -> x.state(1, bad, 0));
        }
        for (int bad : new int[] {Integer.MIN_VALUE, -2, -1, 6, 7, 1023, 1024, 1025, Integer.MAX_VALUE}) {
            CHECK.dueThrow("no such WORD " + bad, INDEX, () -> x.state(bad, 0, 0));
        }
        for (int what = 0; what <= 2; what++) {
            int w = what;
            CHECK.dueThrow("a second one", INDEX, () -> x.state(1, 0, w));
            CHECK.dueThrow("one that is not come to", INDEX, () -> x.state(3, 10, w));
        }
        long[][] want = {{0, 0, 0, 0, 0}, {0, 1, 2, 0, 0}, {0, 9, 0, 0, 0}, {0, 10, 3, 0, 0},
            {2, 0, 1, 1L << 35, 1L << 35}, {4, 0, 1, 1L << 35, 1L << 35}, {4, 3, 0, 0, 0}, {5, 3, 1, 0, 65535},
            {5, 10, 3, 0, 0}};
        for (long[] w : want) {
            for (int what = 0; what <= 2; what++) {
                due("R" + w[1] + " before " + w[0] + ", what " + what, x.state((int) w[0], (int) w[1], what),
                    w[2 + what]);
            }
        }
        promise8Order();
    }

    // "Of several exceptions the one is thrown that the heading of the call names first"
    private static void promise8Order() {
        WordJudge x = new WordJudge();
        CHECK.dueThrow("nothing is verified", STATE, () -> x.state(0, 0, 0));
        CHECK.dueThrow("state before index", STATE, () -> x.state(-1, 10, 2));
        CHECK.dueThrow("argument before state, of r", ARGUMENT, () -> x.state(0, 11, 0));
        CHECK.dueThrow("argument before state, of what", ARGUMENT, () -> x.state(0, 0, 3));
        CHECK.dueThrow("argument before both, of r", ARGUMENT, () -> x.state(-1, -1, 0));
        CHECK.dueThrow("argument before both, of what", ARGUMENT, () -> x.state(1024, 10, -1));
        CHECK.dueThrow("both arguments", ARGUMENT, () -> x.state(0, 11, 3));
    }

    // "IllegalStateException: it is not verified."
    private static void promise9() {
        WordJudge x = new WordJudge();
        CHECK.dueThrow("no WORDS", STATE, x::run);
        x.word(0, Asm.set(0, -1));
        x.word(1, Asm.EXIT);
        CHECK.dueThrow("no verify", STATE, x::run);
        due("verify", x.verify(), 0);
        due("the shortest CODE", x.run(), -1);
        due("the shortest CODE: STEPS", x.count(2), 2);
        for (int i = 0; i < 5; i++) {
            due("run again", x.run(), -1);
        }
        due("reading calls leave it verified", x.state(1, 0, 1) + x.count(0) + x.fault(), 0);
        due("still verified", isVerified(x), 1);
        x.word(1, Asm.EXIT);
        CHECK.dueThrow("behind word", STATE, x::run);
        due("verify", x.verify(), 0);
        x.cut(2);
        CHECK.dueThrow("behind cut", STATE, x::run);
        due("verify", x.verify(), 0);
        x.context(1);
        CHECK.dueThrow("behind context", STATE, x::run);
        due("verify", x.verify(), 0);
        x.word(0, Asm.set(11, 0));
        due("a FAULT", x.verify(), 2);
        CHECK.dueThrow("behind a FAULT", STATE, x::run);
        long[] extremes = {Long.MIN_VALUE, -1, 0, 1, Long.MAX_VALUE};
        for (long v : extremes) {
            WordJudge y = verified(0, Asm.wide(0, v), Asm.second(v), Asm.EXIT);
            due("R0 is told", y.run(), v);
        }
    }

    // "IllegalArgumentException for others."
    private static void promise10() {
        WordJudge x = new WordJudge();
        for (int bad : new int[] {Integer.MIN_VALUE, -2, -1, 5, 6, Integer.MAX_VALUE}) {
            CHECK.dueThrow("count " + bad, ARGUMENT, () -> x.count(bad));
        }
        // "STEPS of the latest run() (EXIT is one)", "WORDS that are come to ... (else 0)"
        Asm.load(x, Asm.read(1, 2, 1, 0), Asm.set(0, 0), Asm.when(1, 2, 7, 1), Asm.EXIT, Asm.set(0, 1), Asm.EXIT,
            Asm.set(0, 2), Asm.EXIT);
        x.context(1);
        due("not verified yet: come to", x.count(3), 0);
        due("verify", x.verify(), 0);
        due("come to, without the last two", x.count(3), 6);
        due("no run yet: STEPS", x.count(2), 0);
        due("run", x.run(), 0);
        due("STEPS to the first EXIT", x.count(2), 4);
        x.put(0, 7);
        due("STEPS stay until the next run", x.count(2), 4);
        due("run", x.run(), 1);
        due("STEPS to the second EXIT", x.count(2), 5);
        x.cut(6);
        due("STEPS stay behind a cut", x.count(2), 5);
        due("come to behind a cut", x.count(3), 0);
        CHECK.dueThrow("refused run", STATE, x::run);
        due("STEPS stay behind a refused run", x.count(2), 5);
        due("verify", x.verify(), 0);
        due("STEPS stay behind a verify", x.count(2), 5);
        due("come to again", x.count(3), 6);
        due("runs that strayed", x.count(4), 0);
        WordJudge wide = verified(0, Asm.wide(0, 1), 0, Asm.wide(2, 1), 0, Asm.EXIT);
        due("second WORDS are not come to", wide.count(3), 3);
        due("run", wide.run(), 1);
        due("second WORDS are no STEPS", wide.count(2), 3);
    }

    // "An object is used for at most 512 calls after it has been made"
    private static void lastCall() {
        WordJudge x = new WordJudge();
        for (int k = 0; k < 508; k++) {
            due("call " + (k + 1), x.word(k, Asm.set(0, k)), k + 1);
        }
        due("call 509", x.word(508, Asm.EXIT), 509);
        due("call 510", x.verify(), 0);
        due("call 511", x.run(), 507);
        due("call 512", x.count(2), 509);
    }

    public static void main(String[] args) {
        promise1();
        promise2();
        promise3();
        promise4();
        promise5();
        promise6();
        promise7();
        promise8();
        promise9();
        promise10();
        lastCall();
        CHECK.end();
    }
}
