import java.lang.management.ManagementFactory;

/** All calls of a run live in one room: what an object makes is little, and does not grow with the calls. */
public final class RoomTest {
    private static final Checks CHECKS = new Checks();
    /** An object with its eight known states and two images takes some 5 000 bytes here. */
    private static final long MOST_BYTES = 20000;

    private static long made() {
        com.sun.management.ThreadMXBean threads = (com.sun.management.ThreadMXBean) ManagementFactory.getThreadMXBean();
        return threads.getThreadAllocatedBytes(Thread.currentThread().getId());
    }

    /** The calls that do the most, and those that keep something. */
    private static void use(FrameClocks x) {
        for (int i = 0; i < 3; i++) {
            x.lays(0, 40, i);
        }
        for (int i = 0; i < 42; i++) {
            x.plays(4800, 20, 3, i % 2);
            x.offsets(0, i + 1);
            x.chases(0, 1000);
            x.there(i % 3);
            x.rates(i % 4);
            x.edge(31);
            x.misses();
            x.begins();
            x.keep(i % 2);
            x.sees(24, 24);
            x.unseen();
            if (i % 5 == 4) {
                x.back(i % 2);
            }
        }
    }

    public static void main(String[] args) {
        made();
        use(new FrameClocks());
        long ahead = made();
        use(new FrameClocks());
        long bytes = made() - ahead;
        System.out.println(bytes + " bytes for one object and its calls");
        CHECKS.due("something is counted", bytes > 0 ? 1 : 0, 1);
        CHECKS.due("little enough", bytes <= MOST_BYTES ? 1 : 0, 1);
        CHECKS.end();
    }
}
