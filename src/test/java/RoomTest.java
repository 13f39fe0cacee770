import java.lang.management.ManagementFactory;

/** All calls of one object live in one room: what was made for a run is used again by the next ones. */
final class RoomTest {
    private static final Due due = new Due("RoomTest");
    private static final com.sun.management.ThreadMXBean threads =
            (com.sun.management.ThreadMXBean) ManagementFactory.getThreadMXBean();

    public static void main(String[] args) {
        // The first round loads classes, which would be counted, too.
        for (int round = 0; round < 2; round++) {
            boolean counts = round == 1;
            long before = made();
            EffectNodes p = new EffectNodes();
            within("a new object", 8_000, before, counts);
            int node = program(p);
            dearestRuns(p, node, counts);
            longRun(counts);
        }
        due.end();
    }

    private static long made() {
        return threads.getThreadAllocatedBytes(Thread.currentThread().getId());
    }

    private static void within(String what, long bytes, long before, boolean counts) {
        long all = made() - before;
        if (counts) {
            due.is(what + " made " + all + " bytes, more than " + bytes, false, () -> all > bytes);
        }
    }

    /** handle (a loop of 398 calls that performs at its end) with a clause that drops all of it. */
    private static int program(EffectNodes p) {
        int one = p.atom(0, 1);
        int f = p.atom(3, 8);
        int x = p.atom(3, 9);
        int type = p.function(0, 0, 255);
        int again = p.let(7, p.fn(7, 0, one), p.call(f, p.two(1, x, one)));
        int body = p.choice(p.two(3, x, one), p.perform(0, one), again);
        p.clause(0, 0, 1, one);
        return p.handle(p.rec(8, 9, type, body, p.call(f, p.atom(0, 250))), 255, 0, one);
    }

    private static void dearestRuns(EffectNodes p, int node, boolean counts) {
        long before = made();
        p.check(node);
        Due.worked(p);
        within("the first run", 200_000, before, counts);
        before = made();
        for (int i = 0; i < 100; i++) {
            p.check(node);
            Due.worked(p);
        }
        within("100 more runs", 2_000, before, counts);
    }

    /** 100,000 calls that each come back. */
    private static void longRun(boolean counts) {
        EffectNodes p = new EffectNodes();
        int one = p.atom(0, 1);
        int f = p.atom(3, 1);
        int x = p.atom(3, 2);
        int down = p.call(f, p.two(1, x, one));
        int body = p.choice(p.two(3, x, one), one, p.let(3, down, down));
        p.check(p.rec(1, 2, p.function(0, 0, 0), body, p.call(f, p.atom(0, 30))));
        p.start();
        long before = made();
        for (int i = 0; i < 480; i++) {
            p.run(200);
        }
        within("96,000 calls", 20_000, before, counts);
    }
}
