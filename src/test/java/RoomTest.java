import java.lang.management.ManagementFactory;

/** All calls of a run live in one room: what 512 calls make is measured, with each search asked for once or more. */
public final class RoomTest {
    private static final int CALLS = 512;
    // Far below the room's 7.3 million elements of 8 bytes.
    private static final long MOST_BYTES = 400_000;
    private static int wrong = 0;

    private static long made() {
        com.sun.management.ThreadMXBean threads = (com.sun.management.ThreadMXBean) ManagementFactory.getThreadMXBean();
        return threads.getThreadAllocatedBytes(Thread.currentThread().getId());
    }

    private static void check(String what, long before) {
        long bytes = made() - before;
        if (bytes > MOST_BYTES) {
            wrong++;
            System.out.println(what + " makes " + bytes + " bytes");
        }
    }

    private static void allSearches() {
        RulerBench x = new RulerBench();
        int calls = 0;
        for (int round = 2; round <= 40; round++) {
            for (int marks = 1; marks <= 6; marks++) {
                x.rings(round, marks, 0, 0);
                calls++;
            }
        }
        for (int length = 0; length <= 24; length++) {
            x.lean(length, 0, 1);
            calls++;
        }
        for (int n = 1; calls + 5 <= CALLS; n++) {
            x.cases(2 + n % 5, 1 + n % 20, 0);
            x.gang(1 + n % 3, 2 + n % 3, 0, 2);
            x.best(1 + n % 7, 0, 3);
            x.lines(n % 20, 4);
            x.powers(n % 20, 5);
            calls += 5;
        }
    }

    private static void allRulers() {
        RulerBench x = new RulerBench();
        x.lines(19, 0);
        for (int calls = 1; calls + 10 <= CALLS; calls += 10) {
            x.stick(calls % 6, calls % 3, 24);
            x.form(0, 1);
            x.alike(0, 1);
            x.factor(0, 2, 2);
            x.turn(2, 3);
            x.open(3, 4, 400, 5);
            x.grow(5);
            x.lacks(5);
            x.apart(1 << 5);
            x.take(5, 0);
        }
    }

    public static void main(String[] args) {
        made();
        long before = made();
        allSearches();
        check("a run of searches", before);
        before = made();
        allRulers();
        check("a run of RULERS", before);
        before = made();
        for (int i = 0; i < 10; i++) {
            new RulerBench();
        }
        check("ten objects", before);
        System.out.println(wrong == 0 ? "the room is wide enough" : "the room is too narrow");
        System.exit(wrong == 0 ? 0 : 1);
    }
}
