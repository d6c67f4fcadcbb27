import java.util.Random;

/** The class and the naive model are given the same calls: each search whole, then many runs by lot. */
public final class NaiveTest {
    /** What an object answers after so many calls is free. */
    private static final int MOST_CALLS = 512;
    /** A STICK filled, a call, and a SHELF looked at before it and after it take fewer calls than this. */
    private static final int STEP = 176;
    private static int wrong = 0;

    private RulerBench bench;
    private Naive naive;
    private int calls;
    private final StringBuilder log = new StringBuilder();

    private static final String[] CALLS = {
        "stick", "drop", "put", "number", "cut", "fail", "ruler", "ring", "tell", "mark", "measures", "lacks", "twice",
        "add", "take", "grow", "turn", "form", "alike", "factor", "open", "shortest", "many", "best", "fewest", "lean",
        "rings", "cases", "apart", "gang", "lines", "powers",
    };

    private static long bit(boolean b) {
        return b ? 1 : 0;
    }

    private void begin() {
        bench = new RulerBench();
        naive = new Naive();
        calls = 0;
        log.setLength(0);
    }

    private boolean isWorn() {
        return calls > MOST_CALLS - STEP;
    }

    private void due(String call, long got, long want) {
        log.append(call).append(" -> ").append(got).append('\n');
        int status = bench.status();
        calls += 2;
        if (got == want && status == naive.status() && calls <= MOST_CALLS) {
            return;
        }
        if (wrong < 5) {
            System.out.println(log.substring(Math.max(0, log.length() - 800)) + "wrong: due is " + want + ", STATUS "
                + status + ", due is " + naive.status() + " (with " + calls + " calls)");
        }
        wrong++;
    }

    private void call(String name, long... a) {
        StringBuilder told = new StringBuilder(name);
        for (long x : a) {
            told.append(' ').append(x);
        }
        int p = a.length > 0 ? (int) a[0] : 0;
        int q = a.length > 1 ? (int) a[1] : 0;
        int r = a.length > 2 ? (int) a[2] : 0;
        int s = a.length > 3 ? (int) a[3] : 0;
        long got;
        long want;
        switch (name) {
            case "stick": got = bit(bench.stick(p, q, r)); want = bit(naive.stick(p, q, r)); break;
            case "drop": got = bit(bench.drop(p)); want = bit(naive.drop(p)); break;
            case "put": got = bit(bench.put(p, q, a[2])); want = bit(naive.put(p, q, a[2])); break;
            case "number": got = bench.number(p, q); want = naive.number(p, q); break;
            case "cut": got = bit(bench.cut(p, q)); want = bit(naive.cut(p, q)); break;
            case "fail": got = bit(bench.fail()); want = bit(naive.fail()); break;
            case "ruler": got = bench.ruler(p, q, r); want = naive.ruler(p, q, r); break;
            case "ring": got = bit(bench.ring(p, q)); want = bit(naive.ring(p, q)); break;
            case "tell": got = bench.tell(p, q); want = naive.tell(p, q); break;
            case "mark": got = bench.mark(p, q); want = naive.mark(p, q); break;
            case "measures": got = bench.measures(p, q); want = naive.measures(p, q); break;
            case "lacks": got = bench.lacks(p); want = naive.lacks(p); break;
            case "twice": got = bench.twice(p); want = naive.twice(p); break;
            case "add": got = bench.add(p, q); want = naive.add(p, q); break;
            case "take": got = bench.take(p, q); want = naive.take(p, q); break;
            case "grow": got = bench.grow(p); want = naive.grow(p); break;
            case "turn": got = bit(bench.turn(p, q)); want = bit(naive.turn(p, q)); break;
            case "form": got = bench.form(p, q); want = naive.form(p, q); break;
            case "alike": got = bench.alike(p, q); want = naive.alike(p, q); break;
            case "factor": got = bit(bench.factor(p, q, r)); want = bit(naive.factor(p, q, r)); break;
            case "open": got = bench.open(p, q, r, s); want = naive.open(p, q, r, s); break;
            case "shortest": got = bench.shortest(p); want = naive.shortest(p); break;
            case "many": got = bench.many(p); want = naive.many(p); break;
            case "best": got = bit(bench.best(p, q, r)); want = bit(naive.best(p, q, r)); break;
            case "fewest": got = bench.fewest(p); want = naive.fewest(p); break;
            case "lean": got = bench.lean(p, q, r); want = naive.lean(p, q, r); break;
            case "rings": got = bench.rings(p, q, r, s); want = naive.rings(p, q, r, s); break;
            case "cases": got = bench.cases(p, q, r); want = naive.cases(p, q, r); break;
            case "apart": got = bench.apart(p); want = naive.apart(p); break;
            case "gang": got = bench.gang(p, q, r, s); want = naive.gang(p, q, r, s); break;
            case "lines": got = bit(bench.lines(p, q)); want = bit(naive.lines(p, q)); break;
            default: got = bit(bench.powers(p, q)); want = bit(naive.powers(p, q)); break;
        }
        due(told.toString(), got, want);
    }

    /** All that can be asked of a SHELF without a change. */
    private void look(int shelf) {
        for (int what = 0; what <= 3; what++) {
            call("tell", shelf, what);
        }
        for (int i = 0; i <= Math.max(0, naive.tell(shelf, 1)); i++) {
            call("mark", shelf, i);
        }
    }

    /** A search that puts what it finds on SHELF 3, on a new object if the one there is has been called too often. */
    private void search(String name, long... a) {
        if (isWorn()) {
            begin();
        }
        long[] all = java.util.Arrays.copyOf(a, a.length + 1);
        all[a.length] = 3;
        call(name, all);
        look(3);
    }

    private void ask(String name, long... a) {
        if (isWorn()) {
            begin();
        }
        call(name, a);
    }

    private void checkSearches() {
        for (int marks = 0; marks <= 8; marks++) {
            ask("shortest", marks);
            ask("many", marks);
            for (int i = -1; i <= (marks < 1 || marks > 7 ? 0 : Naive.bestOf(marks).size()); i++) {
                search("best", marks, i);
            }
        }
        for (int length = -1; length <= 25; length++) {
            ask("fewest", length);
            for (int i = -1; i <= (length < 0 || length > 24 ? 0 : Naive.leanOf(length).size()); i++) {
                search("lean", length, i);
            }
        }
        for (int round = 1; round <= 41; round++) {
            for (int marks = 0; marks <= 7; marks++) {
                boolean known = round >= 2 && round <= 40 && marks >= 1 && marks <= 6;
                for (int i = -1; i <= (known ? Naive.ringsOf(round, marks).size() : 0); i++) {
                    search("rings", round, marks, i);
                }
            }
        }
    }

    private void checkCounts() {
        for (int marks = 1; marks <= 7; marks++) {
            for (int length = 0; length <= 21; length++) {
                for (int what = -1; what <= 2; what++) {
                    ask("cases", marks, length, what);
                }
            }
        }
        for (int rulers = 0; rulers <= 4; rulers++) {
            for (int marks = 1; marks <= 5; marks++) {
                for (int k = -1; k <= rulers; k++) {
                    search("gang", rulers, marks, k);
                }
            }
        }
        for (int p = -1; p <= 24; p++) {
            search("lines", p);
            search("powers", p);
        }
    }

    /** One object for all searches of a kind, so that what it keeps of one can't come up as another. */
    private void checkKept() {
        begin();
        for (int round = 2; round <= 40; round++) {
            for (int marks = 1; marks <= 6; marks++) {
                call("rings", round, marks, 0, 3);
            }
        }
        begin();
        for (int marks = 2; marks <= 6; marks++) {
            for (int length = 1; length <= 20; length++) {
                call("cases", marks, length, length % 2);
            }
        }
        for (int length = 0; length <= 24; length++) {
            call("lean", length, 1, 3);
        }
        for (int marks = 1; marks <= 7; marks++) {
            call("best", marks, 1, 3);
            call("shortest", marks);
            call("gang", 1, marks, 0, 3);
            call("gang", 2, marks, 1, 3);
            call("gang", 3, marks, 2, 3);
            call("tell", 3, 2);
        }
        for (int p = 2; p <= 19; p++) {
            call("lines", p, 3);
            call("powers", p, 4);
            call("mark", 3, 4);
            call("mark", 4, 4);
        }
    }

    private static int near(Random lot, int low, int high) {
        int wide = lot.nextInt(40);
        return wide == 0 ? low - 1 : wide == 1 ? high + 1 : wide == 2 && lot.nextInt(4) == 0 ? lot.nextInt()
            : low + lot.nextInt(high - low + 1);
    }

    /** A run as long as an object may be used; few STICKS and SHELVES, so that calls meet one another's work. */
    private void runByLot(long seed) {
        Random lot = new Random(seed);
        int used = 2 + lot.nextInt(4);
        int far = lot.nextInt(3) == 0 ? 1000 : 12 + lot.nextInt(60);
        begin();
        while (!isWorn()) {
            if (lot.nextInt(30) == 0) {
                fillStick(lot, far);
            }
            if (lot.nextInt(12) == 0) {
                look(lot.nextInt(used));
            }
            callByLot(lot, CALLS[lot.nextInt(CALLS.length)], used - 1, far);
        }
        look(lot.nextInt(used));
    }

    private void fillStick(Random lot, int far) {
        int stick = lot.nextInt(6);
        int many = 1 + lot.nextInt(lot.nextBoolean() ? 24 : 6);
        call("stick", stick, lot.nextInt(3), many);
        long v = lot.nextInt(200) - 100;
        for (int i = 0; i < many; i++) {
            call("put", stick, i, v);
            v += 1 + lot.nextInt(Math.max(1, 2 * far / many));
        }
        call("ruler", lot.nextInt(4), stick, many);
    }

    private void callByLot(Random lot, String name, int top, int far) {
        int shelf = near(lot, 0, top);
        int to = near(lot, 0, top);
        int stick = near(lot, 0, 2);
        boolean even = lot.nextBoolean();
        switch (name) {
            case "stick": call(name, stick, near(lot, 0, 2), near(lot, 0, 24)); break;
            case "drop": call(name, lot.nextInt(3) == 0 ? stick : 6); break;
            case "put": call(name, stick, near(lot, 0, 10), even ? lot.nextLong() : lot.nextInt(100)); break;
            case "number": call(name, stick, near(lot, 0, 24)); break;
            case "cut": call(name, stick, near(lot, 0, 24)); break;
            case "fail": call(name); break;
            case "ruler": call(name, shelf, stick, near(lot, 0, 12)); break;
            case "ring": call(name, shelf, even ? near(lot, 2, 400) : near(lot, 2, 2 * far)); break;
            case "tell": call(name, shelf, near(lot, 0, 3)); break;
            case "mark": call(name, shelf, near(lot, 0, 10)); break;
            case "measures": call(name, shelf, near(lot, 1, far)); break;
            case "lacks": case "twice": case "grow": call(name, shelf); break;
            case "add": call(name, shelf, lot.nextInt(9) == 0 ? near(lot, 1, 1000) : near(lot, 1, far)); break;
            case "take": call(name, shelf, even ? naive.mark(shelf, lot.nextInt(6)) : near(lot, 0, far)); break;
            case "turn": case "form": case "alike": call(name, shelf, to); break;
            case "factor": call(name, shelf, lot.nextInt(3) == 0 ? near(lot, 1, 400) : near(lot, 1, 20), to); break;
            case "open": call(name, shelf, near(lot, 0, 5), even ? 400 : near(lot, 0, far), to); break;
            case "apart": call(name, lot.nextInt(20) == 0 ? near(lot, 0, 65535) : lot.nextInt(1 << top + 1)); break;
            default: searchByLot(lot, name, to); break;
        }
    }

    private void searchByLot(Random lot, String name, int to) {
        switch (name) {
            case "shortest": case "many": call(name, near(lot, 1, 7)); break;
            case "best": call(name, near(lot, 1, 7), near(lot, 0, 5), to); break;
            case "fewest": call(name, near(lot, 0, 24)); break;
            case "lean": call(name, near(lot, 0, 24), near(lot, 0, 20), to); break;
            case "rings": call(name, near(lot, 2, 40), near(lot, 1, 6), near(lot, 0, 6), to); break;
            case "cases": call(name, near(lot, 2, 6), near(lot, 1, 20), near(lot, 0, 1)); break;
            case "gang": call(name, near(lot, 1, 3), near(lot, 2, 4), near(lot, 0, 2), to); break;
            default: call(name, lot.nextBoolean() ? near(lot, 2, 19) : lot.nextBoolean() ? 3 : 5, to); break;
        }
    }

    public static void main(String[] args) {
        int runs = args.length > 0 ? Integer.parseInt(args[0]) : 900;
        NaiveTest test = new NaiveTest();
        test.begin();
        test.checkSearches();
        test.checkCounts();
        test.checkKept();
        for (long seed = 1; seed <= runs; seed++) {
            test.runByLot(seed);
        }
        System.out.println(wrong == 0 ? "all answers are those of the naive model" : wrong + " answers are not as due");
        System.exit(wrong == 0 ? 0 : 1);
    }
}
