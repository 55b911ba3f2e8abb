import java.lang.management.ManagementFactory;

/** The room of a run: calls make nothing but units and what is thrown, however many they are. */
public final class RoomTest {
    private static final int BYTES_OF_ALL_UNITS = 400_000;
    private static final int BYTES_OF_NOTHING = 500;

    public static void main(String[] args) {
        com.sun.management.ThreadMXBean bean =
                (com.sun.management.ThreadMXBean) ManagementFactory.getThreadMXBean();
        long me = Thread.currentThread().getId();
        run(new RemakeNeeds2(), 10, 15);
        long before = bean.getThreadAllocatedBytes(me);
        run(new RemakeNeeds2(), 10, 15);
        long used = bean.getThreadAllocatedBytes(me) - before;
        Due.holds("a full run has room in " + BYTES_OF_ALL_UNITS + " bytes, not " + used, used < BYTES_OF_ALL_UNITS);
        RemakeNeeds2 x = new RemakeNeeds2();
        run(x, 3, 11);
        before = bean.getThreadAllocatedBytes(me);
        run(x, 3, 11);
        used = bean.getThreadAllocatedBytes(me) - before;
        Due.holds("units are used again behind a clear, but took " + used, used < BYTES_OF_NOTHING);
        Due.finish();
    }

    /** 3 + 16 * (3 + 2 * things) + 9 * rounds calls: an object is good for 512. */
    private static void run(RemakeNeeds2 x, int things, int rounds) {
        x.clear();
        for (int u = 0; u < 16; u++) {
            x.unit();
            for (int n = 0; n < things; n++) {
                x.give(u, n % 2 + 1, n, n, false);
                x.build(u, n, n + 1);
            }
            x.way(u, u - 1);
            x.use(u, 1, 3);
        }
        x.reader(0, true);
        x.generated(1, 0);
        for (int i = 0; i < rounds; i++) {
            x.give(0, 1, 0, i, false);
            x.make(16);
            x.force(i % 16);
            x.needs();
            x.coarse();
            x.anew();
            x.chain(1, 0, 9, 0);
            x.row(1, 0);
            x.kept(1, 0);
        }
    }
}
