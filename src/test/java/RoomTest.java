import java.lang.management.ManagementFactory;

/** All calls of a run live in one room: the dearest calls, 512 of each, make next to nothing new. */
public final class RoomTest {
    private static final String LARGE = "PRPPPP/PPPRPP/PPAPPP/PPPPRP/PPPPPP/RPPPPP";

    public static void main(String[] args) {
        for (int which = 0; which < 8; which++) {
            run(which); // once ahead, so that loading classes does not count
            long before = made();
            run(which);
            long bytes = made() - before;
            Check.holds("512 calls of kind " + which + " make " + bytes + " bytes, 300000 at most", bytes <= 300000);
        }
        Check.end();
    }

    private static long made() {
        com.sun.management.ThreadMXBean bean = (com.sun.management.ThreadMXBean) ManagementFactory.getThreadMXBean();
        return bean.getThreadAllocatedBytes(Thread.currentThread().getId());
    }

    private static void run(int which) {
        WheelAndWire x = new WheelAndWire();
        Check.put(x, LARGE);
        x.form();
        for (int i = 0; i < 450; i++) {
            call(x, which, i);
        }
    }

    private static void call(WheelAndWire x, int which, int i) {
        switch (which) {
            case 0: x.two(30, 99, 40, 99, 9); break;
            case 1: x.twoFirst(30, 5, 40, 5, 9); break;
            case 2: x.serve(1 + i % 40, 9, 9); break;
            case 3:
                if (i % 6 == 5) {
                    x.whole();
                } else if (i % 6 == 4) {
                    x.unorder();
                } else {
                    x.order(20 + i % 6, 9, 9);
                }
                break;
            case 4: x.fair(1 + i % 36); break;
            case 5:
                x.left(11 + 1000 * (i % 6));
                x.read();
                break;
            case 6:
                x.form();
                x.keep(i % 2);
                x.again(i % 2);
                break;
            default: x.ripe(0, i % 20, true);
        }
    }
}
