import java.lang.management.ManagementFactory;

/** What 512 dear calls make, counted by the machine: the room of a run has 7.3 million fields and elements. */
public final class RoomTest {
    private static final com.sun.management.ThreadMXBean THREADS =
        (com.sun.management.ThreadMXBean) ManagementFactory.getThreadMXBean();

    public static void main(String[] args) {
        Check check = new Check();
        String road = "person 4;person 6;person 5;person 2;" + "deed 9 1 2 0;".repeat(5) + "rain 3 50;nut 3;board 1;cause 1 2 3 4;loses 8;";
        RainWheel warm = Check.told(road, "0 0 1;1 2 3;2 0 2;3 1 3;4 0 3;");
        use(warm, 1);
        long start = made();
        RainWheel wheel = new RainWheel();
        long fresh = made() - start;
        start = made();
        use(warm, 15);
        long used = made() - start;
        System.out.println("bytes made by a new object: " + fresh + ", by 495 calls: " + used);
        check.holds("a new object is small: " + fresh, fresh < 60_000);
        check.holds("calls that are not refused make nothing to speak of: " + used, used < 20_000);
        check.due("and the new object works", wheel.fault(), -1);
        refusals(check, warm);
        check.end();
    }

    private static void refusals(Check check, RainWheel wheel) {
        long start = made();
        for (int k = 0; k < 512; k++) {
            try {
                wheel.told(99);
            } catch (IllegalArgumentException e) {
                // That it is refused is due.
            }
        }
        check.holds("512 refusals", made() - start < 2_000_000);
    }

    private static long made() {
        return THREADS.getThreadAllocatedBytes(Thread.currentThread().getId());
    }

    private static long use(RainWheel x, int rounds) {
        long all = 0;
        for (int k = 0; k < rounds; k++) {
            all += x.feed(0x6d6f7374, 0x5b312c73, 0x74726f6e, 0x675d2020, 0x20202020);
            all += x.law(20) + x.soonest(0) + x.first(4) + x.urgent() + x.slack(1) + x.span() + x.umbrella() + x.wet(0) + x.idle(0);
            all += x.evenings(1, 40, 2) + x.evening(3, 1) + x.drive(30) + x.pumps(30) + x.cross(6, 1) + x.crooked(123456);
            all += x.waits(8, 9, 9, 1) + x.await(200, 3) + x.tries(0, 7, 3, 0) + x.half(0, 3) + x.odds(0, 1) + x.ask() + x.under(0, 9, 9);
            all += x.push(3, 1, 9, 1) + x.swap(0, 1) + x.image() + x.restore() + x.undo() + x.line(2, 4) + x.would(1, 1, 1, 1, 1, 1);
            all += x.book(0) + x.fault();
        }
        return all;
    }
}
