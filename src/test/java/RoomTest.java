import java.lang.management.ManagementFactory;

/** All calls of a run live in one room: the calls make next to nothing, and a new object is small. */
public final class RoomTest {
    private static final String LAND = "well now 1;fact a odds 1;fact b odds 9;fact c odds 5;fact d odds 2;fact e odds 7;"
        + "fact f odds 4;truth a,c,e;house h first 0 each 1 twins 99;house i first 1 each 1 twins 0;"
        + "question p a;question q b;question r c;question s d;question t e;question u f;question v a and b or c;"
        + "question w a and b or c and d or e and f;stone yes;stone no";

    public static void main(String[] args) {
        for (int warm = 0; warm < 3; warm++) {
            run(new OneAnswer());
        }
        long start = made();
        OneAnswer x = new OneAnswer();
        long object = made() - start;
        Check.load(x, LAND);
        start = made();
        run(x);
        long calls = made() - start;
        System.out.println("bytes of an object " + object + ", of 400 calls " + calls);
        Check.due("a new object is small", object < 100_000, true);
        Check.due("calls make next to nothing", calls < 20_000, true);
        Check.end();
    }

    private static long made() {
        com.sun.management.ThreadMXBean bean = (com.sun.management.ThreadMXBean) ManagementFactory.getThreadMXBean();
        return bean.getThreadAllocatedBytes(Thread.currentThread().getId());
    }

    private static void run(OneAnswer x) {
        for (int i = 0; i < 40; i++) {
            x.fewest(0, i % 8);
            x.first(0, i % 8);
            x.mean(0, i % 8, true);
            x.tells();
            x.bestWedding();
            x.ask(i % 2, i % 8);
            x.image();
            x.back(0);
            x.turnOf(99);
            x.undo();
        }
    }
}
