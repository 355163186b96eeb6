import java.lang.management.ManagementFactory;

/** Calls make no objects and elements, a new object few; the dearest run of calls ends soon. */
public final class RoomTest {
    private static final int ROUNDS = 150;
    private static final long BYTES_OF_AN_OBJECT = 20000;
    private static final long BYTES_OF_A_RUN = 20000;
    private static final long SECONDS = 30;
    private static final String BOOK = "alike a b;alike b c;alike d e;alike e f;alike g h;alike h i;alike j k;alike k l;"
        + "bill 1 a;bill 2 b;bill 3 c;bill 4 d;bill 5 e;bill 6 f;bill 7 g;bill 8 h;";
    private static final String[] CHIPS = {"room 0 a0b1a2b3a4b5a6b7a8b9;", "room 1 pores c0d0c0d0c0d0c0d0c0d0;",
        "room 2 e0f0e0f0e0f0e0f0e0f0;", "room 3 g0h0g0h0g0h0g0h0g0h0;"};

    public static void main(String[] args) {
        Checks checks = new Checks();
        CoatRows x = full();
        dearest(x);
        CoatRows fresh = full();
        long start = System.nanoTime();
        long before = bytes();
        dearest(fresh);
        long made = bytes() - before;
        long seconds = (System.nanoTime() - start) / 1000000000L;
        checks.due("bytes that a run makes, " + made + ", too many", 0, made > BYTES_OF_A_RUN ? 1 : 0);
        checks.due("seconds of a run, " + seconds + ", too many", 0, seconds > SECONDS ? 1 : 0);
        before = bytes();
        CoatRows last = new CoatRows();
        made = bytes() - before;
        checks.due("bytes of an object, " + made + ", too many", 0, made > BYTES_OF_AN_OBJECT ? 1 : 0);
        checks.due("it is new", 0, last.count(0));
        checks.end("RoomTest");
    }

    private static CoatRows full() {
        return Checks.rows(BOOK, CHIPS);
    }

    private static long bytes() {
        return ((com.sun.management.ThreadMXBean) ManagementFactory.getThreadMXBean()).getThreadAllocatedBytes(Thread.currentThread().getId());
    }

    /** The lamp makes the paintings be found anew, over and over, each time for another dear call. */
    private static long dearest(CoatRows x) {
        long sum = 0;
        for (int i = 0; i < ROUNDS; i++) {
            x.tune(2, i % 2);
            switch (i % 10) {
                case 0 -> sum += x.billed(-1);
                case 1 -> sum += x.painting(i % 40);
                case 2 -> sum += x.face(i % 4, 3);
                case 3 -> sum += x.day(i % 4, i);
                case 4 -> sum += x.span(i % 40, 1);
                case 5 -> sum += x.rank(3, i % 4, i % 10);
                case 6 -> sum += x.laid(i % 4, (i + 1) % 4, 9) + x.ways(0, 1);
                case 7 -> sum += x.next() + x.keep(i % 2) + x.back(i % 2);
                case 8 -> sum += x.chip() + x.book() + x.enough(10, 99);
                default -> {
                    x.drop(3);
                    x.type(0x726f6f6d35613b20L, 8);
                    sum += x.chip() + x.clear();
                    x.back(1);
                }
            }
        }
        return sum;
    }
}
