import java.lang.management.ManagementFactory;

/** A run of 512 calls, the dearest ones, takes little of the one room that all calls live in. */
public final class RoomTest extends Bench {
    // The room holds 600,000 objects of 16 bytes at least, and 7.3 million elements of a byte at least.
    private static final long MOST_BYTES = 1_000_000;

    private static long allocated() {
        return ((com.sun.management.ThreadMXBean) ManagementFactory.getThreadMXBean())
                .getThreadAllocatedBytes(Thread.currentThread().getId());
    }

    /** Some hundred calls tell a full court and its texts; the others, up to 508, are of the dearest. */
    private static void dearRun() {
        GlassEyes g = new GlassEyes(6);
        for (int i = 0; i < 8; i++) {
            g.thing(i % 4);
            g.eye(i % 4, i % 2 == 0);
            g.put(i, i / 2);
        }
        for (int i = 0; i < 4; i++) {
            read(g, "sees hour*since+many/(1+thing)#kind-who*colour or not eye=1;rubs eye*hour;" + times(22, "touch" + i + "by0;"));
        }
        g.by(0);
        for (int i = 0; i < 411; i++) {
            switch (i % 8) {
                case 0: g.how(0, 3, NONE); break;
                case 1: g.cat(i, 40); break;
                case 2: g.supper(0, 0, NONE); break;
                case 3: g.verdict(15); break;
                case 4: g.played(i % 4); break;
                case 5: g.told(0, 0, 0); break;
                case 6: g.image(); break;
                default: g.back(); break;
            }
        }
    }

    public static void main(String[] args) {
        long before = allocated();
        dearRun();
        long bytes = allocated() - before;
        System.out.println(bytes + " bytes, the test's own among them");
        due("a run takes little room", bytes < MOST_BYTES, true);
        finish();
    }
}
