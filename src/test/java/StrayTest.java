import java.lang.reflect.Field;

/**
 * count(4): CODE that is verified never strays, so no call of the face alone can make it rise. Here CODE with a FAULT
 * is passed off as verified, to see that a run does look where it reads and writes.
 */
public final class StrayTest {
    private static final Check CHECK = new Check("StrayTest");

    private static void passOff(WordJudge x) {
        try {
            Field verified = WordJudge.class.getDeclaredField("verified");
            verified.setAccessible(true);
            verified.setBoolean(x, true);
        } catch (ReflectiveOperationException e) {
            throw new IllegalStateException(e);
        }
    }

    /** How many of three runs strayed, on a new object. */
    private static void due(String what, int fault, int each, long... words) {
        WordJudge x = Asm.judge(8, words);
        CHECK.due(what + ": FAULT", x.verify(), fault);
        passOff(x);
        for (int run = 1; run <= 3; run++) {
            x.run();
            CHECK.due(what + ": runs that strayed", x.count(4), (long) each * run);
        }
        // What strayed before does not count again in a run that does not.
        Asm.load(x, Asm.set(0, 1), Asm.storeImm(1, 10, -1, 1), Asm.read(1, 0, 10, -1), Asm.read(8, 0, 1, 0), Asm.EXIT);
        CHECK.due(what + ": verify of what is right", x.verify(), 0);
        x.run();
        CHECK.due(what + ": a run that did not stray", x.count(4), 3L * each);
    }

    /** A FAULT of the last WORD before the end. */
    private static void dueStray(String what, int fault, long... words) {
        due(what, fault, 1, new Program().add(words).add(Asm.set(0, 0), Asm.EXIT).all());
    }

    private static void readsNothing() {
        due("EXIT with nothing", 14, 1, Asm.EXIT);
        dueStray("D that had nothing", 6, Asm.alu(0, 2, 1));
        dueStray("S that had nothing", 6, Asm.move(2, 3));
        dueStray("a condition of nothing", 6, Asm.when(1, 2, 0, 0));
        dueStray("0 - nothing", 6, Asm.alu(8, 2, 0));
        dueStray("octets that had nothing", 12, Asm.read(1, 2, 10, -1));
        dueStray("one octet of eight that had nothing", 12, Asm.storeImm(4, 10, -8, 0), Asm.storeImm(2, 10, -4, 0),
            Asm.storeImm(1, 10, -2, 0), Asm.read(8, 2, 10, -8));
        dueStray("the first octet of the STACK", 12, Asm.read(1, 2, 10, -512));
        // EXIT with a pointer and 32 bits of one are FAULTS, but nothing that strays.
        due("EXIT with a pointer", 14, 0, Asm.move(0, 1), Asm.EXIT);
        due("32 bits of a pointer", 7, 0, Asm.set(0, 0), Asm.alu32S(11, 2, 1), Asm.EXIT);
    }

    private static void readsBeyond() {
        dueStray("behind the CONTEXT", 11, Asm.read(1, 2, 1, 8));
        dueStray("one octet behind the CONTEXT", 11, Asm.read(8, 2, 1, 1));
        dueStray("before the CONTEXT", 11, Asm.read(1, 2, 1, -1));
        dueStray("one octet before the CONTEXT", 11, Asm.read(2, 2, 1, -1));
        dueStray("behind the STACK", 11, Asm.read(1, 2, 10, 0));
        dueStray("before the STACK", 11, Asm.read(1, 2, 10, -513));
        dueStray("where a number points", 9, Asm.set(3, 0), Asm.read(1, 2, 3, 0));
    }

    private static void writesBeyond() {
        dueStray("behind the STACK", 11, Asm.storeImm(1, 10, 0, 0));
        dueStray("one octet behind the STACK", 11, Asm.storeImm(8, 10, -7, 0));
        dueStray("before the STACK", 11, Asm.storeImm(1, 10, -513, 0));
        dueStray("one octet before the STACK", 11, Asm.storeImm(2, 10, -513, 0));
        dueStray("where a number points", 9, Asm.set(3, 0), Asm.storeImm(1, 3, 0, 0));
        dueStray("twice in a run", 11, Asm.storeImm(1, 10, 0, 0), Asm.storeImm(1, 10, 0, 0));
        dueStray("and nothing else behind it", 11, Asm.storeImm(1, 10, 0, 0), Asm.set(2, 0), Asm.alu(0, 2, 1));
        due("all of the STACK", 14, 0, Asm.storeImm(8, 10, -512, 0), Asm.storeImm(8, 10, -8, 0),
            Asm.read(8, 2, 10, -512), Asm.read(8, 2, 10, -8), Asm.move(0, 10), Asm.EXIT);
    }

    /** What one run had is nothing to the next one. */
    private static void startsAnew() {
        WordJudge x = Asm.judge(8, Asm.set(0, 1), Asm.set(5, 1), Asm.storeImm(8, 10, -512, 1), Asm.EXIT);
        CHECK.due("verify", x.verify(), 0);
        x.run();
        Asm.load(x, Asm.read(1, 0, 10, -512), Asm.EXIT);
        passOff(x);
        CHECK.due("an octet of the run before", x.run(), 0);
        CHECK.due("an octet of the run before: strayed", x.count(4), 1);
        Asm.load(x, Asm.move(0, 5), Asm.EXIT);
        passOff(x);
        CHECK.due("a register of the run before", x.run(), 0);
        CHECK.due("a register of the run before: strayed", x.count(4), 2);
        Asm.load(x, Asm.EXIT);
        passOff(x);
        CHECK.due("R0 of the run before", x.run(), 0);
        CHECK.due("R0 of the run before: strayed", x.count(4), 3);
    }

    public static void main(String[] args) {
        readsNothing();
        readsBeyond();
        writesBeyond();
        startsAnew();
        CHECK.end();
    }
}
