import com.sun.management.ThreadMXBean;
import java.lang.management.ManagementFactory;

/** What a run makes is counted: an object's rows are made with it, and no call but law() makes anything. */
public final class RoomTest {
    private static final ThreadMXBean THREADS = (ThreadMXBean) ManagementFactory.getThreadMXBean();
    private static final long ID = Thread.currentThread().getId();
    private static final int[] BUILDS = tokens("build times 20;build times 20;build times 20");
    private static final int[] LAW = tokens("ranks 9-vertex if part=1 or part=2;bars if key=7");

    public static void main(String[] args) {
        Checks checks = new Checks();
        run(new PeeledHash(), 3);
        long before = THREADS.getThreadAllocatedBytes(ID);
        long idle = THREADS.getThreadAllocatedBytes(ID) - before;
        PeeledHash x = new PeeledHash();
        long made = THREADS.getThreadAllocatedBytes(ID);
        run(x, 12);
        long ran = THREADS.getThreadAllocatedBytes(ID);
        for (int i = 0; i < 6; i++) {
            feed(x, LAW);
            x.law();
        }
        long lawsRead = THREADS.getThreadAllocatedBytes(ID);
        checks.due("six laws stand", x.count(4), 6);
        checks.due("a new object, in bytes: " + (made - before), made - before < 80000 ? 1 : 0, 1);
        checks.due("calls but law(), in bytes: " + (ran - made), ran - made <= idle + 64 ? 1 : 0, 1);
        checks.due("six laws, in bytes: " + (lawsRead - ran), lawsRead - ran < 6 * 4000 ? 1 : 0, 1);
        checks.finish("RoomTest");
    }

    private static int[] tokens(String text) {
        int[] fed = new int[(text.length() + 19) / 20 * 5];
        for (int i = 0; i < fed.length * 4; i++) {
            fed[i / 4] = fed[i / 4] << 8 | (i < text.length() ? text.charAt(i) : ' ');
        }
        return fed;
    }

    private static void feed(PeeledHash x, int[] fed) {
        for (int i = 0; i < fed.length; i += 5) {
            x.feed(fed[i], fed[i + 1], fed[i + 2], fed[i + 3], fed[i + 4]);
        }
    }

    private static void run(PeeledHash x, int rounds) {
        for (int i = 0; i < 8; i++) {
            x.add(i);
        }
        for (int i = 0; i < rounds; i++) {
            feed(x, BUILDS);
            x.orders();
            x.undo();
            x.add(900);
            x.take(900);
            x.side(9);
            x.seed(9);
            x.side(4);
            x.seed(0);
            x.years(i, 60);
            x.good(-1);
            x.leastSide();
            x.peeled(3, 1);
            x.core(9);
            x.found(3, 2);
            x.twin(99);
            x.seen(4, 0);
            x.ask(1);
            x.canBe(-1);
            x.few(20, 99);
            x.image(0);
            x.back(0);
            x.feed(1, 2, 3, 4, 5);
            x.row();
            x.feed(1, 2, 3, 4, 5);
            x.law();
            x.key(5, 1);
            x.vertex(5, 1);
            x.compare(-1, 4);
            x.terms(0, 0);
        }
    }
}
