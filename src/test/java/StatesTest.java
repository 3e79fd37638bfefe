/** STATES: faults 6 to 14, pointers, the STACK, what a condition leaves, and what joins. */
public final class StatesTest {
    private static final Check CHECK = new Check("StatesTest");
    private static final long MIN = Long.MIN_VALUE;
    private static final long MAX = Long.MAX_VALUE;

    private static WordJudge due(String what, int want, int at, int context, long... words) {
        WordJudge x = Asm.judge(context, words);
        CHECK.due(what, x.verify(), want);
        CHECK.due(what + ": where", x.fault(), at);
        return x;
    }

    /** WORDS before EXIT, which are right; R0 is set behind them. */
    private static WordJudge right(String what, int context, long... words) {
        return due(what, 0, -1, context, ended(words));
    }

    /** The last one of the WORDS has the FAULT. */
    private static void wrong(String what, int want, int context, long... words) {
        due(what, want, words.length - 1, context, ended(words));
    }

    private static long[] ended(long... words) {
        long[] all = java.util.Arrays.copyOf(words, words.length + 2);
        all[words.length] = Asm.set(0, 0);
        all[words.length + 1] = Asm.EXIT;
        return all;
    }

    private static void dueState(String what, WordJudge x, int k, int r, long kind, long low, long high) {
        CHECK.due(what + ": kind", x.state(k, r, 0), kind);
        CHECK.due(what + ": low", x.state(k, r, 1), low);
        CHECK.due(what + ": high", x.state(k, r, 2), high);
    }

    private static void fault6() {
        wrong("D of arithmetic", 6, 0, Asm.alu(0, 2, 1));
        wrong("D of 32 bits", 6, 0, Asm.alu32(0, 2, 1));
        wrong("D of 0 -", 6, 0, Asm.alu(8, 2, 0));
        wrong("D of 13", 6, 0, Asm.word(0xD4, 2, 0, 0, 16));
        wrong("D of a condition", 6, 0, Asm.when(1, 2, 0, 0));
        wrong("D of a condition of 32 bits", 6, 0, Asm.when32(4, 2, 0, 0));
        wrong("S of an operand", 6, 0, Asm.move(2, 3));
        wrong("S of an operand of 32 bits", 6, 0, Asm.alu32S(11, 2, 3));
        wrong("S of a condition", 6, 0, Asm.set(2, 0), Asm.whenS(1, 2, 3, 0));
        wrong("S of reading", 6, 0, Asm.read(8, 2, 3, 0));
        wrong("D of storing", 6, 0, Asm.storeImm(8, 3, 0, 0));
        wrong("S of storing", 6, 0, Asm.store(8, 10, -8, 3));
        wrong("S of storing comes before the pointer", 6, 0, Asm.store(8, 1, 300, 3));
        wrong("exclusive or with itself", 6, 0, Asm.aluS(10, 2, 2));
        wrong("S before a wrong pointer", 6, 0, Asm.aluS(2, 1, 3));
        right("D of a move has no old number", 0, Asm.set(2, 1), Asm.alu32(11, 3, 1));
        right("D of a move was a pointer", 0, Asm.alu32(11, 1, 1), Asm.move(2, 1));
        right("13 turned does not use R0", 0, Asm.set(2, 1), Asm.word(0xDC, 2, 0, 0, 16));
        right("0 - does not use R0", 0, Asm.set(2, 1), Asm.alu(8, 2, 0));
        WordJudge x = due("one way alone sets it", 6, 4, 1, Asm.read(1, 2, 1, 0), Asm.when(1, 2, 0, 1), Asm.set(3, 1),
            Asm.set(0, 0), Asm.alu(0, 3, 1), Asm.EXIT);
        CHECK.due("not verified", x.count(3), 0);
        due("what is not come to may use NONE", 0, -1, 0, Asm.set(0, 0), Asm.go(1), Asm.alu(0, 3, 1), Asm.EXIT);
    }

    private static void fault7() {
        wrong("32 bits of a pointer", 7, 0, Asm.alu32S(11, 2, 1));
        wrong("32 bits + of a pointer", 7, 0, Asm.alu32(0, 1, 1));
        wrong("* of a pointer", 7, 0, Asm.alu(2, 1, 1));
        wrong("0 - of a pointer", 7, 0, Asm.alu(8, 1, 0));
        wrong("13 of a pointer", 7, 0, Asm.word(0xD4, 1, 0, 0, 64));
        wrong("and of a pointer", 7, 0, Asm.alu(5, 1, -1));
        wrong("two pointers +", 7, 0, Asm.aluS(0, 1, 1));
        wrong("two pointers -", 7, 0, Asm.aluS(1, 1, 1));
        wrong("number - pointer", 7, 0, Asm.set(2, 1), Asm.aluS(1, 2, 1));
        wrong("number or pointer", 7, 0, Asm.set(2, 1), Asm.aluS(4, 2, 1));
        wrong("number + pointer of 32 bits", 7, 0, Asm.set(2, 1), Asm.alu32S(0, 2, 1));
        WordJudge x = right("number + pointer", 0, Asm.set(2, 5), Asm.aluS(0, 2, 1), Asm.set(3, -5),
            Asm.aluS(0, 3, 10));
        dueState("number + CONTEXT", x, 4, 2, 2, 5, 5);
        dueState("number + STACK", x, 4, 3, 3, -5, -5);
        dueState("CONTEXT stays", x, 4, 1, 2, 0, 0);
        right("100000", 0, Asm.alu(0, 1, 100000), Asm.alu(1, 1, 200000));
        wrong("100001", 7, 0, Asm.alu(0, 1, 100001));
        wrong("-100001", 7, 0, Asm.alu(1, 1, 100001));
        wrong("100000 and one more", 7, 0, Asm.alu(0, 1, 100000), Asm.alu(0, 1, 1));
        x = right("STACK as far", 0, Asm.move(2, 10), Asm.alu(0, 2, 100000), Asm.alu(1, 2, 200000));
        dueState("STACK at the edge", x, 3, 2, 3, -100000, -100000);
        wrong("STACK farther", 7, 0, Asm.move(2, 10), Asm.alu(0, 2, -100001));
        wrong("by the greatest", 7, 0, Asm.wide(2, MAX), Asm.second(MAX), Asm.aluS(0, 1, 2));
        wrong("by the least", 7, 0, Asm.wide(2, MIN), Asm.second(MIN), Asm.aluS(1, 1, 2));
        wrong("by all", 7, 8, Asm.read(8, 2, 1, 0), Asm.aluS(0, 1, 2));
        wrong("less all", 7, 8, Asm.read(8, 2, 1, 0), Asm.aluS(1, 1, 2));
        wrong("STACK by more than one number", 7, 8, Asm.read(1, 2, 1, 0), Asm.move(3, 10), Asm.aluS(0, 3, 2));
        wrong("STACK less more than one number", 7, 8, Asm.read(1, 2, 1, 0), Asm.move(3, 10), Asm.aluS(1, 3, 2));
        x = right("CONTEXT by more than one", 8, Asm.read(1, 2, 1, 0), Asm.move(3, 1), Asm.aluS(0, 3, 2),
            Asm.move(4, 1), Asm.alu(0, 2, 10), Asm.aluS(1, 4, 2), Asm.aluS(0, 2, 3));
        dueState("CONTEXT and 0 to 255", x, 6, 3, 2, 0, 255);
        dueState("CONTEXT less 10 to 265", x, 6, 4, 2, -265, -10);
        dueState("10 to 265 and CONTEXT", x, 7, 2, 2, 10, 520);
        wrong("low in, high beyond", 7, 8, Asm.read(1, 2, 1, 0), Asm.alu(0, 1, 99990), Asm.aluS(0, 1, 2));
    }

    private static void fault8() {
        wrong("CONTEXT compared", 8, 0, Asm.when(1, 1, 0, 0));
        wrong("STACK compared", 8, 0, Asm.when(5, 10, 0, 0));
        wrong("number with a pointer", 8, 0, Asm.set(2, 0), Asm.whenS(1, 2, 1, 0));
        wrong("32 bits with a pointer", 8, 0, Asm.set(2, 0), Asm.when32S(4, 2, 10, 0));
        wrong("32 bits of a pointer", 8, 0, Asm.when32(4, 1, 0, 0));
    }

    private static void reaching() {
        wrong("read from a number", 9, 8, Asm.set(2, 0), Asm.read(1, 2, 2, 0));
        wrong("store to a number", 9, 8, Asm.set(2, 0), Asm.storeImm(1, 2, 0, 0));
        wrong("9 comes before 13", 9, 8, Asm.set(2, 0), Asm.store(1, 2, 0, 1));
        wrong("store to CONTEXT", 10, 8, Asm.storeImm(1, 1, 0, 0));
        wrong("10 comes before 11", 10, 8, Asm.storeImm(1, 1, 100, 0));
        wrong("10 comes before 13", 10, 8, Asm.store(1, 1, 0, 1));
        for (int size = 1; size <= 8; size *= 2) {
            right("CONTEXT first", 8, Asm.read(size, 2, 1, 0));
            right("CONTEXT last", 8, Asm.read(size, 2, 1, 8 - size));
            wrong("CONTEXT before", 11, 8, Asm.read(size, 2, 1, -1));
            wrong("CONTEXT behind", 11, 8, Asm.read(size, 2, 1, 9 - size));
            right("STACK first", 8, Asm.storeImm(size, 10, -512, 0), Asm.read(size, 2, 10, -512));
            right("STACK last", 8, Asm.storeImm(size, 10, -size, 0), Asm.read(size, 2, 10, -size));
            wrong("STACK before", 11, 8, Asm.storeImm(size, 10, -513, 0));
            wrong("STACK behind", 11, 8, Asm.storeImm(size, 10, 1 - size, 0));
            wrong("STACK read before", 11, 8, Asm.read(size, 2, 10, -513));
            wrong("STACK read behind", 11, 8, Asm.read(size, 2, 10, 1 - size));
        }
        wrong("no CONTEXT", 11, 0, Asm.read(1, 2, 1, 0));
        wrong("11 comes before 13", 11, 8, Asm.store(4, 10, 0, 1));
        right("moved pointer", 8, Asm.alu(0, 1, 1000), Asm.read(8, 2, 1, -1000));
        right("span within", 8, Asm.read(1, 2, 1, 0), Asm.alu(5, 2, 3), Asm.aluS(0, 1, 2), Asm.read(1, 3, 1, 4));
        wrong("span's high beyond", 11, 8, Asm.read(1, 2, 1, 0), Asm.alu(5, 2, 3), Asm.aluS(0, 1, 2),
            Asm.read(1, 3, 1, 5));
        wrong("span's low before", 11, 8, Asm.read(1, 2, 1, 0), Asm.alu(5, 2, 3), Asm.aluS(0, 1, 2),
            Asm.read(1, 3, 1, -1));
        WordJudge x = right("sizes", 8, Asm.read(1, 2, 1, 0), Asm.read(2, 3, 1, 0), Asm.read(4, 4, 1, 0),
            Asm.read(8, 5, 1, 0));
        dueState("one octet", x, 4, 2, 1, 0, 255);
        dueState("two octets", x, 4, 3, 1, 0, 65535);
        dueState("four octets", x, 4, 4, 1, 0, (1L << 32) - 1);
        dueState("eight octets", x, 4, 5, 1, MIN, MAX);
        wrong("11 of S comes first, then D gets", 11, 8, Asm.read(8, 1, 1, 1));
        due("exit with a pointer", 14, 1, 0, Asm.move(0, 1), Asm.EXIT);
        due("exit with NONE", 14, 0, 0, Asm.EXIT);
    }

    private static void stack() {
        wrong("read what is not set", 12, 0, Asm.read(1, 2, 10, -1));
        wrong("read beside", 12, 0, Asm.storeImm(1, 10, -8, 0), Asm.read(2, 2, 10, -8));
        right("read together", 0, Asm.storeImm(1, 10, -8, 0), Asm.storeImm(1, 10, -7, 0), Asm.read(2, 2, 10, -8));
        wrong("one of eight not set", 12, 0, Asm.storeImm(4, 10, -8, 0), Asm.storeImm(2, 10, -4, 0),
            Asm.storeImm(1, 10, -1, 0), Asm.read(8, 2, 10, -8));
        WordJudge x = right("kept number", 0, Asm.set(2, 77), Asm.store(8, 10, -16, 2), Asm.read(8, 3, 10, -16),
            Asm.read(4, 4, 10, -16), Asm.read(8, 5, 10, -16));
        dueState("kept number read whole", x, 5, 3, 1, 77, 77);
        dueState("kept number read in part", x, 5, 4, 1, 0, (1L << 32) - 1);
        dueState("kept number is kept still", x, 5, 5, 1, 77, 77);
        x = right("kept pointers", 8, Asm.store(8, 10, -8, 1), Asm.store(8, 10, -512, 10), Asm.read(8, 2, 10, -8),
            Asm.read(8, 3, 10, -512));
        dueState("kept CONTEXT", x, 4, 2, 2, 0, 0);
        dueState("kept STACK", x, 4, 3, 3, 0, 0);
        wrong("part of a kept pointer", 12, 8, Asm.store(8, 10, -8, 1), Asm.read(4, 2, 10, -8));
        wrong("eight octets across a kept pointer", 12, 8, Asm.storeImm(8, 10, -16, 0), Asm.store(8, 10, -8, 1),
            Asm.read(8, 2, 10, -12));
        wrong("pointer not aligned", 13, 8, Asm.store(8, 10, -12, 1));
        wrong("pointer in part", 13, 8, Asm.store(4, 10, -8, 1));
        x = right("IMM is not kept", 0, Asm.storeImm(8, 10, -8, 5), Asm.read(8, 2, 10, -8));
        dueState("IMM is not kept", x, 2, 2, 1, MIN, MAX);
        x = right("not aligned is not kept", 0, Asm.set(2, 5), Asm.store(8, 10, -12, 2), Asm.read(8, 3, 10, -12));
        dueState("not aligned is not kept", x, 3, 3, 1, MIN, MAX);
        x = right("kept number overwritten in part", 0, Asm.set(2, 5), Asm.store(8, 10, -8, 2),
            Asm.storeImm(1, 10, -1, 0), Asm.read(8, 3, 10, -8));
        dueState("kept number overwritten in part", x, 4, 3, 1, MIN, MAX);
        wrong("kept pointer overwritten in part", 12, 8, Asm.store(8, 10, -8, 1), Asm.storeImm(1, 10, -1, 0),
            Asm.read(1, 3, 10, -2));
        for (int octet = -8; octet < -1; octet++) {
            wrong("the other octets of an overwritten pointer", 12, 8, Asm.store(8, 10, -8, 1),
                Asm.storeImm(1, 10, -1, 0), Asm.read(1, 3, 10, octet));
        }
        right("what overwrote a kept pointer", 8, Asm.store(8, 10, -8, 1), Asm.storeImm(2, 10, -2, 0),
            Asm.read(2, 3, 10, -2));
        wrong("two kept pointers overwritten, first", 12, 8, Asm.store(8, 10, -16, 1), Asm.store(8, 10, -8, 10),
            Asm.storeImm(8, 10, -12, 0), Asm.read(1, 3, 10, -13));
        wrong("two kept pointers overwritten, second", 12, 8, Asm.store(8, 10, -16, 1), Asm.store(8, 10, -8, 10),
            Asm.storeImm(8, 10, -12, 0), Asm.read(1, 3, 10, -4));
        right("eight octets between overwrote both", 8, Asm.store(8, 10, -16, 1), Asm.store(8, 10, -8, 10),
            Asm.storeImm(8, 10, -12, 0), Asm.read(8, 3, 10, -12));
        x = right("kept pointer overwritten whole", 8, Asm.set(2, 9), Asm.store(8, 10, -8, 1), Asm.store(8, 10, -8, 2),
            Asm.read(8, 3, 10, -8), Asm.read(1, 4, 10, -8));
        dueState("kept pointer overwritten whole", x, 4, 3, 1, 9, 9);
        right("kept pointer overwritten by eight of IMM", 8, Asm.store(8, 10, -8, 1), Asm.storeImm(8, 10, -8, 3),
            Asm.read(2, 3, 10, -5));
        x = right("by a moved STACK pointer", 0, Asm.move(2, 10), Asm.alu(0, 2, -24), Asm.set(3, 4),
            Asm.store(8, 2, 8, 3), Asm.read(8, 4, 10, -16));
        dueState("by a moved STACK pointer", x, 5, 4, 1, 4, 4);
        x = right("kept as it was then", 0, Asm.set(3, 4), Asm.store(8, 10, -16, 3), Asm.set(3, 5),
            Asm.read(8, 4, 10, -16));
        dueState("kept as it was then", x, 4, 4, 1, 4, 4);
    }

    /** Two ways meet before the last WORDS: one with one, the other with two; R9 is an octet. */
    private static long[] meet(long[] one, long[] two, long... behind) {
        java.util.ArrayList<Long> all = new java.util.ArrayList<>();
        all.add(Asm.read(1, 9, 1, 0));
        all.add(Asm.when32(1, 9, 0, one.length + 1));
        for (long w : one) {
            all.add(w);
        }
        all.add(Asm.go(two.length));
        for (long w : two) {
            all.add(w);
        }
        for (long w : behind) {
            all.add(w);
        }
        all.add(Asm.set(0, 0));
        all.add(Asm.EXIT);
        long[] words = new long[all.size()];
        for (int k = 0; k < words.length; k++) {
            words[k] = all.get(k);
        }
        return words;
    }

    private static long[] ways(long... words) {
        return words;
    }

    private static void joins() {
        long[] code = meet(ways(Asm.set(2, -4), Asm.move(3, 1), Asm.set(4, 1), Asm.move(5, 10), Asm.move(6, 10),
            Asm.set(7, 1)), ways(Asm.set(2, 6), Asm.move(3, 1), Asm.alu(0, 3, 9), Asm.move(4, 1), Asm.move(5, 10),
            Asm.move(6, 10), Asm.alu(0, 6, -8)));
        WordJudge x = due("joined", 0, -1, 1, code);
        int k = code.length - 2;
        dueState("numbers", x, k, 2, 1, -4, 6);
        dueState("contexts", x, k, 3, 2, 0, 9);
        dueState("number and context", x, k, 4, 0, 0, 0);
        dueState("same stack", x, k, 5, 3, 0, 0);
        dueState("other stack", x, k, 6, 0, 0, 0);
        dueState("number and none", x, k, 7, 0, 0, 0);
        joinsOfStack();
        x = due("both ways of a condition", 0, -1, 1, Asm.read(1, 0, 1, 0), Asm.when(6, 0, 10, 0), Asm.EXIT);
        dueState("both ways of a condition", x, 2, 0, 1, 0, 255);
        x = due("three ways", 0, -1, 1, Asm.read(1, 2, 1, 0), Asm.set(0, 5), Asm.when(1, 2, 1, 4), Asm.set(0, -5),
            Asm.when(1, 2, 2, 2), Asm.set(0, 50), Asm.go(0), Asm.EXIT);
        dueState("three ways", x, 7, 0, 1, -5, 50);
    }

    private static void joinsOfStack() {
        long[] keep2 = ways(Asm.set(2, 2), Asm.store(8, 10, -8, 2));
        long[] keep7 = ways(Asm.set(2, 7), Asm.store(8, 10, -8, 2));
        long[] keepContext = ways(Asm.store(8, 10, -8, 1));
        long[] keepMoved = ways(Asm.move(3, 1), Asm.alu(0, 3, 4), Asm.store(8, 10, -8, 3));
        long[] keepStack = ways(Asm.store(8, 10, -8, 10));
        long[] keepOther = ways(Asm.move(3, 10), Asm.alu(0, 3, -8), Asm.store(8, 10, -8, 3));
        long[] eight = ways(Asm.storeImm(8, 10, -8, 3));
        long[] four = ways(Asm.storeImm(4, 10, -8, 3));
        long whole = Asm.read(8, 4, 10, -8);
        dueKept("numbers", keep2, keep7, whole, 1, 2, 7);
        dueKept("contexts", keepContext, keepMoved, whole, 2, 0, 4);
        dueKept("same stack", keepStack, keepStack, whole, 3, 0, 0);
        dueKept("number and not kept", keep2, eight, whole, 1, MIN, MAX);
        dueKept("number and not kept, in part", eight, keep2, Asm.read(4, 4, 10, -6), 1, 0, (1L << 32) - 1);
        dueKept("kept and less set, in part", keep2, four, Asm.read(2, 4, 10, -7), 1, 0, 65535);
        dueLost("kept and less set", keep2, four, whole);
        dueLost("other stack", keepStack, keepOther, whole);
        dueLost("other stack in part", keepStack, keepOther, Asm.read(1, 4, 10, -8));
        dueLost("number and pointer", keep2, keepContext, whole);
        dueLost("number and pointer in part", keep2, keepContext, Asm.read(1, 4, 10, -1));
        dueLost("pointer and number in part", keepStack, keep2, Asm.read(1, 4, 10, -8));
        dueLost("pointer and set", keepContext, eight, Asm.read(1, 4, 10, -8));
        dueLost("set and pointer", eight, keepContext, Asm.read(4, 4, 10, -4));
        dueLost("context and stack", keepContext, keepStack, whole);
        dueLost("set and nothing", eight, ways(), Asm.read(1, 4, 10, -8));
        dueLost("the first octet, set and nothing", ways(Asm.storeImm(1, 10, -512, 1)), ways(),
            Asm.read(1, 4, 10, -512));
        dueLost("the first eight, pointer and set", ways(Asm.store(8, 10, -512, 1)),
            ways(Asm.storeImm(8, 10, -512, 1)), Asm.read(1, 4, 10, -512));
        dueLost("the first eight, set and pointer", ways(Asm.storeImm(8, 10, -512, 1)),
            ways(Asm.store(8, 10, -512, 1)), Asm.read(1, 4, 10, -505));
        dueKept("the first eight", ways(Asm.store(8, 10, -512, 1)), ways(Asm.store(8, 10, -512, 1)),
            Asm.read(8, 4, 10, -512), 2, 0, 0);
        // The other eights are as they were.
        WordJudge x = due("beside", 0, -1, 1, meet(
            ways(Asm.storeImm(8, 10, -16, 1), Asm.store(8, 10, -8, 1), Asm.storeImm(8, 10, -24, 1)),
            ways(Asm.storeImm(8, 10, -16, 1), Asm.storeImm(8, 10, -8, 1), Asm.storeImm(8, 10, -24, 1)),
            Asm.read(8, 4, 10, -16), Asm.read(8, 4, 10, -24)));
        CHECK.due("beside: run", x.run(), 0);
    }

    private static void dueKept(String what, long[] one, long[] two, long read, long kind, long low, long high) {
        long[] code = meet(one, two, read);
        WordJudge x = due("joined STACK: " + what, 0, -1, 1, code);
        dueState("joined STACK: " + what, x, code.length - 2, 4, kind, low, high);
    }

    private static void dueLost(String what, long[] one, long[] two, long read) {
        long[] code = meet(one, two, read);
        due("joined STACK: " + what, 12, code.length - 3, 1, code);
    }

    // ---- what conditions leave

    /** R2 is from low to high before a condition with k; what it is on both ways (low above high: not gone). */
    private static void narrow(int relation, long low, long high, long k, long[] taken, long[] other) {
        for (int form = 0; form < 2; form++) {
            boolean small = k == (int) k;
            if (form == 0 && !small) {
                continue;
            }
            long[] code = narrowCode(relation, low, high, k, form == 1);
            String what = "[" + low + ", " + high + "] relation " + relation + " " + k;
            WordJudge x = due(what, 0, -1, 8, code);
            int at = code.length - 4;
            dueState(what + " before", x, at, 2, 1, low, high);
            dueWay(what + " taken", x, at + 3, taken);
            dueWay(what + " not taken", x, at + 1, other);
        }
    }

    private static void dueWay(String what, WordJudge x, int k, long[] want) {
        if (want[0] > want[1]) {
            CHECK.dueThrow(what + " is not gone", IndexOutOfBoundsException.class, () -> x.state(k, 2, 0));
        } else {
            dueState(what, x, k, 2, 1, want[0], want[1]);
        }
    }

    /** Ends with: the condition, an R0 of the way not taken, EXIT, the goal which is EXIT. */
    private static long[] narrowCode(int relation, long low, long high, long k, boolean register) {
        java.util.ArrayList<Long> code = new java.util.ArrayList<>();
        code.add(Asm.set(0, 0));
        code.add(Asm.wide(2, low));
        code.add(Asm.second(low));
        if (low != high) {
            code.add(Asm.read(1, 3, 1, 0));
            code.add(Asm.when32(1, 3, 0, 2));
            code.add(Asm.wide(2, high));
            code.add(Asm.second(high));
        }
        code.add(Asm.wide(4, k));
        code.add(Asm.second(k));
        code.add(register ? Asm.whenS(relation, 2, 4, 2) : Asm.when(relation, 2, (int) k, 2));
        code.add(Asm.set(5, 1));
        code.add(Asm.EXIT);
        code.add(Asm.EXIT);
        long[] words = new long[code.size()];
        for (int i = 0; i < words.length; i++) {
            words[i] = code.get(i);
        }
        return words;
    }

    private static long[] span(long low, long high) {
        return new long[] {low, high};
    }

    private static void narrowing() {
        long[] none = {1, 0};
        narrow(1, 0, 10, 5, span(5, 5), span(0, 10));
        narrow(1, 0, 10, 0, span(0, 0), span(1, 10));
        narrow(1, 0, 10, 10, span(10, 10), span(0, 9));
        narrow(1, 0, 10, 11, none, span(0, 10));
        narrow(1, 0, 10, -1, none, span(0, 10));
        narrow(1, 4, 4, 4, span(4, 4), none);
        narrow(1, MAX, MAX, MAX, span(MAX, MAX), none);
        narrow(1, MIN, MIN, MIN, span(MIN, MIN), none);
        narrow(1, 4, 5, 4, span(4, 4), span(5, 5));
        narrow(5, 0, 10, 10, span(0, 9), span(10, 10));
        narrow(5, 0, 10, 12, span(0, 10), none);
        narrow(5, 4, 4, 4, none, span(4, 4));
        narrow(5, MIN, MAX, MIN, span(MIN + 1, MAX), span(MIN, MIN));
        narrow(5, MIN, MAX, MAX, span(MIN, MAX - 1), span(MAX, MAX));
        narrow(6, -5, 10, 3, span(4, 10), span(-5, 3));
        narrow(6, -5, 10, 10, none, span(-5, 10));
        narrow(6, -5, 10, -6, span(-5, 10), none);
        narrow(6, MIN, MAX, MAX, none, span(MIN, MAX));
        narrow(7, -5, 10, 3, span(3, 10), span(-5, 2));
        narrow(7, MIN, MAX, MIN, span(MIN, MAX), none);
        narrow(12, -5, 10, 3, span(-5, 2), span(3, 10));
        narrow(12, MIN, MAX, MIN, none, span(MIN, MAX));
        narrow(13, -5, 10, 3, span(-5, 3), span(4, 10));
        narrow(13, MIN, MAX, MAX, span(MIN, MAX), none);
        narrow(2, 0, 10, 3, span(4, 10), span(0, 3));
        narrow(3, 0, 10, 3, span(3, 10), span(0, 2));
        narrow(10, 0, 10, 3, span(0, 2), span(3, 10));
        narrow(11, 0, 10, 3, span(0, 3), span(4, 10));
        narrow(10, 0, 10, 0, none, span(0, 10));
        narrow(3, 0, 10, 0, span(0, 10), none);
        narrow(2, 0, MAX, MAX, none, span(0, MAX));
        narrow(2, -5, 10, 3, span(-5, 10), span(0, 3));
        narrow(3, -5, 10, 3, span(-5, 10), span(0, 2));
        narrow(10, -5, 10, 3, span(0, 2), span(-5, 10));
        narrow(11, -5, 10, 3, span(0, 3), span(-5, 10));
        narrow(10, -5, 10, 0, none, span(-5, 10));
        narrow(11, -5, 10, 0, span(0, 0), span(-5, 10));
        narrow(10, -5, -2, 7, none, span(-5, -2));
        narrow(2, -5, 10, -3, span(-5, 10), span(-5, 10));
        narrow(10, 0, 10, -3, span(0, 10), span(0, 10));
        narrow(11, -5, -4, -3, span(-5, -4), span(-5, -4));
        narrow(4, 0, 10, 0, span(0, 10), span(0, 10));
        narrow(4, 4, 4, 4, span(4, 4), span(4, 4));
        narrow(2, MIN, MAX, 0, span(MIN, MAX), span(0, 0));
        notNarrowing();
    }

    private static void notNarrowing() {
        WordJudge x = due("32 bits narrow nothing", 0, -1, 8, Asm.set(0, 4), Asm.when32(1, 0, 4, 1), Asm.EXIT,
            Asm.EXIT);
        dueState("32 bits narrow nothing", x, 2, 0, 1, 4, 4);
        dueState("32 bits narrow nothing", x, 3, 0, 1, 4, 4);
        x = due("more than one number narrows nothing", 0, -1, 8, Asm.read(1, 0, 1, 0), Asm.read(1, 2, 1, 1),
            Asm.whenS(12, 0, 2, 1), Asm.EXIT, Asm.EXIT);
        dueState("more than one number narrows nothing", x, 3, 0, 1, 0, 255);
        dueState("more than one number narrows nothing", x, 4, 2, 1, 0, 255);
        x = due("S is not narrowed", 0, -1, 8, Asm.read(1, 2, 1, 1), Asm.set(0, 7), Asm.whenS(1, 0, 2, 1), Asm.EXIT,
            Asm.EXIT);
        dueState("S is not narrowed", x, 4, 2, 1, 0, 255);
        x = due("what was moved before is not narrowed", 0, -1, 8, Asm.read(1, 2, 1, 1), Asm.move(0, 2),
            Asm.when(1, 2, 7, 1), Asm.EXIT, Asm.EXIT);
        dueState("what was moved before is not narrowed", x, 4, 0, 1, 0, 255);
        dueState("D is", x, 4, 2, 1, 7, 7);
        x = due("a way that is not gone is not looked at", 0, -1, 0, Asm.set(0, 1), Asm.when(5, 0, 1, 1), Asm.go(1),
            Asm.alu(0, 7, 1), Asm.EXIT);
        CHECK.due("a way that is not gone: come to", x.count(3), 4);
        x = due("D and S are one register", 0, -1, 0, Asm.set(0, 1), Asm.whenS(1, 0, 0, 1), Asm.alu(0, 7, 1),
            Asm.EXIT);
        CHECK.due("D and S are one register: come to", x.count(3), 3);
    }

    public static void main(String[] args) {
        fault6();
        fault7();
        fault8();
        reaching();
        stack();
        joins();
        narrowing();
        CHECK.end();
    }
}
