import com.sun.management.ThreadMXBean;
import java.lang.management.ManagementFactory;

/** All calls of a run live in one room: an object makes its rows once and uses them again. */
public final class RoomTest {
    private static final ThreadMXBean THREADS = (ThreadMXBean) ManagementFactory.getThreadMXBean();

    private static long made() {
        return THREADS.getThreadAllocatedBytes(Thread.currentThread().getId());
    }

    private static WordJudge filled(int words) {
        WordJudge x = new WordJudge();
        x.context(256);
        for (int k = 0; k < words - 1; k++) {
            x.word(k, k % 3 == 0 ? Asm.read(1, 0, 1, k % 256) : k % 3 == 1 ? Asm.store(8, 10, -8, 0)
                : Asm.when(1, 0, k, 0));
        }
        x.word(words - 1, Asm.EXIT);
        return x;
    }

    public static void main(String[] args) {
        Check check = new Check("RoomTest");
        filled(20).verify();
        long start = made();
        WordJudge empty = new WordJudge();
        check.due("a new object is small", made() - start < 40000 ? 1 : 0, 1);
        check.due("a new object has no words", empty.count(0), 0);

        start = made();
        WordJudge x = filled(500);
        check.due("verify", x.verify(), 0);
        x.run();
        check.due("the fullest object stays small", made() - start < 2000000 ? 1 : 0, 1);

        start = made();
        long sum = 0;
        for (int i = 0; i < 400; i++) {
            x.put(i % 256, i);
            x.word(499, Asm.EXIT);
            sum += x.verify() + x.run() + x.state(499, 0, 2) + x.count(3) + x.fault();
        }
        check.due("later calls make nothing", made() - start < 20000 ? 1 : 0, 1);
        check.due("and answer", sum != 0 ? 1 : 0, 1);
        check.end();
    }
}
