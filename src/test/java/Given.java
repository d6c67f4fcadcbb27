import java.util.ArrayList;
import java.util.Arrays;
import java.util.List;
import java.util.Map;
import java.util.TreeSet;

/**
 * A furnished bench, and calls that are made on it first. Each check makes a bench of its own, so that no check sees
 * another one's work; and each looks at all STICKS and SHELVES, not at those alone that its call names.
 */
final class Given {
    /** Which STICK or SHELF a call changes: the number of its argument, counted from 0. */
    private static final Map<String, Integer> CHANGED_STICK = Map.of("stick", 0, "drop", 0, "put", 0, "cut", 0);
    private static final Map<String, Integer> CHANGED_SHELF = Map.ofEntries(Map.entry("ruler", 0), Map.entry("ring", 0),
        Map.entry("add", 0), Map.entry("take", 0), Map.entry("grow", 0), Map.entry("turn", 1), Map.entry("form", 1),
        Map.entry("factor", 2), Map.entry("open", 3), Map.entry("best", 2), Map.entry("lean", 2), Map.entry("rings", 3),
        Map.entry("gang", 3), Map.entry("lines", 1), Map.entry("powers", 1));
    private static final String[] FURNITURE = {
        "0 1 3", "0 1 5 9", "0 1 3 / 7", "0 1 2 3 4 5 6 7 8 9 10 11 12 13 14 15 16 17 18 19 20 21 22 23", "0 399 / 400",
        "0", "0 1000", "0 / 2", "0 2 7 8 11",
        "0 9 33 37 38 97 122 129 140 142 152 191 205 208 252 278 286 326 332 353 368 384 403 1000", "0 1 2",
    };

    private static int wrong = 0;
    private static int checks = 0;
    private static String sentence = "";
    private static final TreeSet<String> REFUSALS = new TreeSet<>();

    private final String[] first;
    private final String[] before;

    /** Calls that are made first, each of which must hold; "11 = 0 1 3" lays a RULER on SHELF 11. */
    Given(String... first) {
        this.first = first;
        this.before = made().shown();
    }

    // ---- What the runner asks.

    static void begin(String words) {
        sentence = words;
    }

    static int wrong() {
        return wrong;
    }

    static int checks() {
        return checks;
    }

    /** Each call that was refused, with the STATUS: "cut 5". */
    static TreeSet<String> refusals() {
        return REFUSALS;
    }

    static void check(String what, Object got, Object want) {
        checks++;
        if (!got.equals(want)) {
            wrong++;
            System.out.println(sentence + "\n  " + what + ": " + got + ", due is " + want);
        }
    }

    // ---- The bench.

    /**
     * STICK 0 has three numbers of 8 bits, 1 has 24 of 32, 2 has none of 64, 3 has three of 64 that do not rise, 4 is
     * MISSING again, 5 has always been. SHELVES 0 to 10 and 15 have RULERS and RINGS of each KIND, 11 to 14 nothing.
     */
    private Bench made() {
        Bench bench = new Bench();
        bench.fill(0, 0, "0 1 3");
        bench.fill(1, 1, FURNITURE[3]);
        bench.call("stick(2, 2, 0)");
        bench.fill(3, 2, "5 5 9");
        for (int i = 0; i < FURNITURE.length; i++) {
            bench.lay(i, FURNITURE[i]);
        }
        bench.lay(15, "0 1 4 9");
        for (String call : first) {
            String[] parts = call.split(" = ");
            if (parts.length > 1) {
                bench.lay(Integer.parseInt(parts[0]), parts[1]);
            } else {
                bench.call(call);
                check("to begin with, " + call + ", STATUS", bench.status(), 0L);
            }
        }
        return bench;
    }

    // ---- What is due.

    /** Each call gives NONE, or false, and a STATUS, and leaves all as it was; whatever STATUS there was before. */
    Given refuses(int status, String... calls) {
        for (String call : calls) {
            REFUSALS.add(Bench.nameOf(call) + " " + status);
            for (String ahead : new String[] {"status()", "fail()"}) {
                Bench bench = made();
                bench.call(ahead);
                Object got = bench.call(call);
                check(call, got, got instanceof Boolean ? (Object) false : (Object) (-1L));
                check(call + " leaves STATUS", bench.status(), (long) status);
                checkLeft(call, bench, "");
            }
        }
        return this;
    }

    /** A call that holds: its answer, STATUS 0 whatever it was before, and nothing else is changed. */
    Given gives(Object answer, String call) {
        holds(answer, call);
        return this;
    }

    Given gives(long answer, String call) {
        return gives((Object) answer, call);
    }

    /** The same, with what is then on the STICK or SHELF that the call changes. */
    Given gives(Object answer, String call, String then) {
        Bench bench = holds(answer, call);
        boolean stick = CHANGED_STICK.containsKey(Bench.nameOf(call));
        String shown = stick ? bench.shownStick(target(call)) : bench.shownShelf(target(call));
        check("what is there after " + call, shown, then);
        return this;
    }

    Given gives(long answer, String call, String then) {
        return gives((Object) answer, call, then);
    }

    private Bench holds(Object answer, String call) {
        Bench bench = made();
        bench.call("fail()");
        check(call, bench.call(call), answer);
        check(call + " leaves STATUS", bench.status(), 0L);
        checkLeft(call, bench, changed(call));
        return bench;
    }

    /** All is as it was before the call, but for the STICK or SHELF that it may change. */
    private void checkLeft(String call, Bench bench, String but) {
        List<String> unlike = new ArrayList<>();
        String[] after = bench.shown();
        for (int i = 0; i < after.length; i++) {
            boolean mayChange = !but.isEmpty() && after[i].startsWith(but + " ");
            if (!mayChange && !after[i].equals(before[i])) {
                unlike.add(after[i] + " (it was " + before[i] + ")");
            }
        }
        check(call + " changes", unlike, Arrays.asList());
    }

    private static int target(String call) {
        String name = Bench.nameOf(call);
        Integer place = CHANGED_STICK.containsKey(name) ? CHANGED_STICK.get(name) : CHANGED_SHELF.get(name);
        return Integer.parseInt(Bench.argumentsOf(call)[place]);
    }

    private static String changed(String call) {
        String name = Bench.nameOf(call);
        if (CHANGED_STICK.containsKey(name)) {
            return "STICK " + target(call);
        }
        return CHANGED_SHELF.containsKey(name) ? "SHELF " + target(call) : "";
    }
}
