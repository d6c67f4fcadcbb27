import java.util.ArrayList;
import java.util.Arrays;
import java.util.HashSet;
import java.util.LinkedHashSet;
import java.util.List;
import java.util.Set;
import java.util.TreeSet;

/** The sentences that say what a word or a call means: worked out anew from the words, and held against the answers. */
final class Meanings extends Sentences {
    private static final int[] PRIMES = {2, 3, 5, 7, 11, 13, 17, 19};
    private static final String[] RULERS =
        {"0", "0 1", "0 1000", "0 1 4 6", "0 1 2 3", "0 2 4 8 16", "0 1 2 6 9", "0 5 10 15 20", "0 2 7 8 11"};
    private static final String[] RINGS =
        {"0 / 2", "0 1 / 3", "0 1 3 / 7", "0 1 3 / 8", "0 4 / 9", "0 1 4 14 16 / 21", "0 2 7 8 11 / 23", "0 39 / 40"};

    private Meanings() {
    }

    private static Bench benchWith(String... shelves) {
        Bench bench = new Bench();
        for (int i = 0; i < shelves.length; i++) {
            bench.lay(i, shelves[i]);
        }
        return bench;
    }

    private static int[] marksOf(String shown) {
        return Arrays.stream(shown.split(" / ")[0].split(" ")).mapToInt(Integer::parseInt).toArray();
    }

    private static int roundOf(String shown) {
        return shown.contains("/") ? Integer.parseInt(shown.split(" / ")[1]) : 0;
    }

    private static String shown(Iterable<Integer> marks) {
        List<String> all = new ArrayList<>();
        for (int mark : marks) {
            all.add("" + mark);
        }
        return String.join(" ", all);
    }

    private static void due(Bench bench, String call, Object want) {
        Given.check(call, bench.call(call), want);
    }

    private static int commonDivisor(int a, int b) {
        return b == 0 ? a : commonDivisor(b, a % b);
    }

    /** How often a RULER, or a RING, MEASURES a length. */
    private static long times(String shown, int d) {
        int round = roundOf(shown);
        long found = 0;
        for (int x : marksOf(shown)) {
            for (int y : marksOf(shown)) {
                found += (round == 0 ? y - x : (y - x + round) % round) == d ? 1 : 0;
            }
        }
        return found;
    }

    private static int longest(String shown) {
        int[] marks = marksOf(shown);
        return roundOf(shown) == 0 ? marks[marks.length - 1] : roundOf(shown) - 1;
    }

    private static long kind(String ruler) {
        boolean none = true;
        boolean each = true;
        for (int d = 1; d <= longest(ruler); d++) {
            none &= times(ruler, d) < 2;
            each &= times(ruler, d) > 0;
        }
        return none && each ? 4 : none ? 3 : each ? 2 : 1;
    }

    // ---- Terms.

    @Says(in = "Terms",
        words = "as often as a MARK and another one, or the same, come to be d apart going up from the first to the "
            + "second")
    static void goingUp() {
        for (String ring : RINGS) {
            Bench bench = benchWith(ring);
            for (int d = 1; d < roundOf(ring); d++) {
                due(bench, "measures(0, " + d + ")", times(ring, d));
            }
        }
    }

    /** By ORDER, as long as all have as many MARKS. */
    private static int compare(String one, String other) {
        return Arrays.compare(marksOf(one), marksOf(other));
    }

    private static TreeSet<String> allAlike(int[] marks, int n) {
        TreeSet<String> found = new TreeSet<>(Meanings::compare);
        for (int a = 1; a <= n; a++) {
            for (int b = 0; b < n && commonDivisor(a, n) == 1; b++) {
                TreeSet<Integer> image = new TreeSet<>();
                for (int x : marks) {
                    image.add((a * x + b) % n);
                }
                if (image.contains(0)) {
                    found.add(shown(image) + " / " + n);
                }
            }
        }
        return found;
    }

    @Says(in = "Terms",
        words = "a RING (of ROUND n) and each that comes of it by taking each MARK x to the rest of a x + b by n")
    static void takenByAAndB() {
        for (int n : new int[] {9, 12, 13, 14}) {
            TreeSet<String> alike = allAlike(new int[] {0, 1, 4}, n);
            for (int x = 1; x < n; x++) {
                for (int y = x + 1; y < n; y++) {
                    Bench bench = benchWith("0 1 4 / " + n, "0 " + x + " " + y);
                    String other = "0 " + x + " " + y + " / " + n;
                    boolean isRing = bench.call("ring(1, " + n + ")").equals(true);
                    Given.check(other + " is ALIKE", bench.call("alike(0, 1)").equals(1L), alike.contains(other));
                    Given.check(other + " is a RING if it is ALIKE", isRing || !alike.contains(other), true);
                }
            }
            for (String ring : alike) {
                Bench bench = benchWith(ring);
                due(bench, "form(0, 1)", ring.equals(alike.first()) ? 1L : 0L);
                Given.check("FORM of " + ring, bench.shownShelf(1), alike.first());
            }
        }
    }

    // ---- 3. SEARCHES.

    /** How many CASES come of one, itself with them, and how many of these are of m MARKS without a length twice. */
    private static long[] casesFrom(List<Integer> marks, int m, int n) {
        Set<Integer> measured = new HashSet<>();
        boolean twice = false;
        for (int x : marks) {
            for (int y : marks) {
                twice |= y > x && !measured.add(y - x);
            }
        }
        int last = marks.get(marks.size() - 1);
        int sum = last;
        int d = 1;
        for (int left = m - marks.size(); left > 0; d++) {
            if (!measured.contains(d)) {
                sum += d;
                left--;
            }
        }
        long[] found = {1, marks.size() == m && !twice ? 1 : 0};
        for (int y = last + 1; !twice && sum <= n && marks.size() < m && y <= n; y++) {
            List<Integer> next = new ArrayList<>(marks);
            next.add(y);
            long[] more = casesFrom(next, m, n);
            found[0] += more[0];
            found[1] += more[1];
        }
        return found;
    }

    @Says(in = "3. SEARCHES",
        words = "How many CASES there are in all; and how many are of m MARKS without a length twice.")
    static void casesInAll() {
        Bench bench = new Bench();
        for (int m = 2; m <= 6; m++) {
            for (int n = 1; n <= 20; n++) {
                long[] found = casesFrom(List.of(0), m, n);
                due(bench, "cases(" + m + ", " + n + ", 0)", found[0]);
                due(bench, "cases(" + m + ", " + n + ", 1)", found[1]);
            }
        }
    }

    private static void checkGang(int rulers, int marks) {
        Bench bench = new Bench();
        String name = "GANG of " + rulers + " and " + marks + ", ";
        long greatest = 0;
        String before = "-1";
        for (int k = 0; k < rulers; k++) {
            bench.call("gang(" + rulers + ", " + marks + ", " + k + ", " + k + ")");
            String ruler = bench.shownShelf(k);
            due(bench, "tell(" + k + ", 1)", (long) marks);
            due(bench, "form(" + k + ", 15)", 1L);
            Given.check(name + ruler + " is behind " + before, compare(ruler, before) > 0, true);
            greatest = Math.max(greatest, longest(ruler));
            before = ruler;
        }
        due(bench, "apart(" + ((1 << rulers) - 1) + ")", 1L);
        due(bench, "gang(" + rulers + ", " + marks + ", 0, 15)", greatest);
    }

    @Says(in = "3. SEARCHES", words = "of r RULERS of m MARKS, each its own FORM, in ORDER, that are APART")
    static void gangByItsWords() {
        for (int rulers = 1; rulers <= 3; rulers++) {
            for (int marks = 2; marks <= (rulers == 3 ? 3 : 4); marks++) {
                checkGang(rulers, marks);
            }
        }
    }

    /** The powers of t from power 0 on until one comes again: rows of rests, that of the highest power of t first. */
    private static LinkedHashSet<List<Integer>> powersOf(int p, int... rule) {
        LinkedHashSet<List<Integer>> rows = new LinkedHashSet<>();
        List<Integer> row = new ArrayList<>();
        for (int i = 1; i < rule.length; i++) {
            row.add(0);
        }
        row.add(1);
        while (rows.add(row)) {
            List<Integer> next = new ArrayList<>();
            for (int i = 0; i < rule.length; i++) {
                int below = i + 1 < rule.length ? row.get(i + 1) : 0;
                next.add((row.get(0) * rule[i] + below) % p);
            }
            row = next;
        }
        return rows;
    }

    /** The powers below a ROUND that have so many times the highest power of t, less the least, as a RING is shown. */
    private static String ringOf(LinkedHashSet<List<Integer>> rows, int wanted, int round) {
        List<Integer> marks = new ArrayList<>();
        int least = -1;
        int i = 0;
        for (List<Integer> row : rows) {
            if (i < round && row.get(0) == wanted) {
                least = least < 0 ? i : least;
                marks.add(i - least);
            }
            i++;
        }
        return shown(marks) + " / " + round;
    }

    private static boolean isWhole(LinkedHashSet<List<Integer>> rows, int p, int degree) {
        int all = degree == 3 ? p * p * p : p * p;
        return rows.size() == all - 1 && rows.stream().noneMatch(row -> row.stream().allMatch(rest -> rest == 0));
    }

    private static String linesOf(int p) {
        for (int a = 0; a < p; a++) {
            for (int b = 0; b < p; b++) {
                for (int c = 0; c < p; c++) {
                    LinkedHashSet<List<Integer>> rows = powersOf(p, a, b, c);
                    if (isWhole(rows, p, 3)) {
                        return ringOf(rows, 0, p * p + p + 1);
                    }
                }
            }
        }
        return "none";
    }

    private static String powerRingOf(int p) {
        for (int a = 0; a < p; a++) {
            for (int b = 0; b < p; b++) {
                LinkedHashSet<List<Integer>> rows = powersOf(p, a, b);
                if (isWhole(rows, p, 2)) {
                    return ringOf(rows, 1, p * p - 1);
                }
            }
        }
        return "none";
    }

    @Says(in = "3. SEARCHES",
        words = "of all a, b, c (0 to p - 1 each, by a, then b, then c) the first with which the powers of t, "
            + "where t t t is a t t + b t + c (numbers taken as their rests by p), are all the p p p - 1 rows of "
            + "three rests but that of 0s")
    static void linesByTheirWords() {
        for (int p : PRIMES) {
            given().gives(true, "lines(" + p + ", 11)", linesOf(p));
        }
    }

    @Says(in = "3. SEARCHES", words = "of all a, b likewise, t t being a t + b, powers being p p - 1")
    static void powersByTheirWords() {
        for (int p : PRIMES) {
            if (p != 2) {
                given().gives(true, "powers(" + p + ", 11)", powerRingOf(p));
            }
        }
    }

    private static void checkRing(String call, int round) {
        given(call).gives(5, "tell(11, 0)").gives(round, "tell(11, 3)").gives(0, "mark(11, 0)").gives(0, "twice(11)")
            .gives(true, "ring(11, " + round + ")");
    }

    @Says(in = "3. SEARCHES", words = "Each, less the least one, is a RING, of ROUND p p + p + 1, or p p - 1.")
    static void linesAndPowersAreRings() {
        for (int p : PRIMES) {
            checkRing("lines(" + p + ", 11)", p * p + p + 1);
            if (p != 2) {
                checkRing("powers(" + p + ", 11)", p * p - 1);
            }
        }
    }

    @Says(in = "4. STATUS", words = "The constants: `NONE = -1`: None.")
    static void none() {
        Given.check("NONE", RulerBench.NONE, -1);
        due(new Bench(), "tell(0, 0)", (long) RulerBench.NONE);
    }

    // ---- RULERS.

    @Says(in = "Promise 9",
        words = "The first numbers of a STICK, so many (5: none), each less the first, are a RULER on a SHELF "
            + "(1, 2, 3, 5, 6, 7): its KIND.")
    static void rulerOfTheFirst() {
        String[] due = {"0", "0 1", "0 1 4", "0 1 4 6", "0 1 4 6 8", "0 1 4 6 8 99"};
        for (int kind = 0; kind <= 2; kind++) {
            Bench bench = new Bench();
            bench.fill(1, kind, "-3 -2 1 3 5 96 97");
            for (int many = 1; many <= due.length; many++) {
                due(bench, "ruler(0, 1, " + many + ")", kind(due[many - 1]));
                Given.check("of the first " + many, bench.shownShelf(0), due[many - 1]);
            }
        }
    }

    @Says(in = "Promise 12", words = "MARK i (2, 4; 5: there is none such)")
    static void eachMark() {
        Bench bench = benchWith("0 1 4 14 16 / 21", "0 9 1000");
        long[] ring = {0, 1, 4, 14, 16};
        long[] ruler = {0, 9, 1000};
        for (int i = 0; i < ring.length; i++) {
            due(bench, "mark(0, " + i + ")", ring[i]);
            due(bench, "mark(1, " + i + ")", i < ruler.length ? ruler[i] : -1L);
        }
    }

    @Says(in = "Promise 13", words = "How often a length is MEASURED (2, 4; 5: below 1)")
    static void howOften() {
        for (String ruler : RULERS) {
            Bench bench = benchWith(ruler);
            for (int d = 1; d <= 25; d++) {
                due(bench, "measures(0, " + d + ")", times(ruler, d));
            }
        }
    }

    @Says(in = "Promise 14", words = "The least length from 1 to LENGTH (of a RING to ROUND - 1) that is not MEASURED;")
    static void leastNotMeasured() {
        List<String> all = new ArrayList<>(Arrays.asList(RULERS));
        all.addAll(Arrays.asList(RINGS));
        for (String each : all) {
            int d = 1;
            while (d <= longest(each) && times(each, d) > 0) {
                d++;
            }
            due(benchWith(each), "lacks(0)", d > longest(each) ? 0L : (long) d);
        }
    }

    @Says(in = "Promise 16", words = "A MARK more (2, 4;")
    static void oneMarkMore() {
        for (int x = 1; x <= 12; x++) {
            TreeSet<Integer> marks = new TreeSet<>(List.of(0, 3, 7));
            if (marks.add(x)) {
                given("11 = 0 3 7").gives(kind(shown(marks)), "add(11, " + x + ")", shown(marks));
            }
        }
    }

    @Says(in = "Promise 17", words = "A MARK less; what is left begins at 0 again (2, 4;")
    static void oneMarkLess() {
        String[] left = {"0 1 3 4", "0 3 5 6", "0 2 5 6", "0 2 3 6", "0 2 3 5"};
        int[] marks = {0, 2, 3, 5, 6};
        for (int i = 0; i < marks.length; i++) {
            given("11 = 0 2 3 5 6").gives(kind(left[i]), "take(11, " + marks[i] + ")", left[i]);
        }
    }

    /** The row that Mian and Chowla told of, from 1 on, each less 1. */
    @Says(in = "Promise 18", words = "7: it would be above 1,000; asked in this order): that MARK.")
    static void grownFrom0() {
        long[] grown = {1, 3, 7, 12, 20, 30, 44, 65, 80, 96, 122, 147, 181, 203, 251, 289, 360, 400, 474, 564, 592, 661,
            774};
        Bench bench = benchWith("0");
        for (int i = 0; i < grown.length; i++) {
            due(bench, "grow(0)", grown[i]);
            due(bench, "mark(0, " + (i + 1) + ")", grown[i]);
            due(bench, "tell(0, 1)", i + 2L);
        }
        due(bench, "grow(0)", -1L);
        Given.check("STATUS with 24 MARKS", bench.status(), 9L);
    }

    @Says(in = "Promise 22", words = "A RING comes to a SHELF with each MARK x as the rest of k x by ROUND (2, 4;")
    static void eachFactor() {
        for (int k = 1; k <= 45; k++) {
            Bench bench = benchWith("0 1 4 14 16 / 21");
            TreeSet<Integer> marks = new TreeSet<>();
            for (int x : new int[] {0, 1, 4, 14, 16}) {
                marks.add(k * x % 21);
            }
            boolean holds = commonDivisor(k, 21) == 1;
            due(bench, "factor(0, " + k + ", 1)", holds);
            Given.check("by " + k, bench.shownShelf(1), holds ? shown(marks) + " / 21" : "-");
        }
    }

    @Says(in = "Promise 23",
        words = "A RING opened at MARK i: each MARK less it (those below it by ROUND more), those above a place left "
            + "out, is a RULER on a SHELF (2, 4; 5: no such MARK, a place below 0; 8: no RING): its KIND.")
    static void eachOpened() {
        int[] marks = {0, 1, 4, 14, 16};
        for (int i = 0; i < marks.length; i++) {
            Bench bench = benchWith("0 1 4 14 16 / 21");
            for (int place = 0; place <= 22; place++) {
                TreeSet<Integer> left = new TreeSet<>();
                for (int x : marks) {
                    int far = x < marks[i] ? x - marks[i] + 21 : x - marks[i];
                    left.addAll(far <= place ? List.of(far) : List.of());
                }
                due(bench, "open(0, " + i + ", " + place + ", 1)", kind(shown(left)));
                Given.check("opened at " + marks[i] + " to " + place, bench.shownShelf(1), shown(left));
            }
        }
    }

    private static boolean areApart(List<String> rulers) {
        Set<Integer> measured = new HashSet<>();
        for (String ruler : rulers) {
            for (int x : marksOf(ruler)) {
                for (int y : marksOf(ruler)) {
                    if (y > x && !measured.add(y - x)) {
                        return false;
                    }
                }
            }
        }
        return true;
    }

    @Says(in = "Promise 31", words = "Whether the RULERS of a set of SHELVES (bit k for SHELF k) are APART: 1 or 0 (5:")
    static void eachSet() {
        String[] rulers = {"0 1 4", "0 2 7", "0", "0 6 14", "0 9 18", "0 10 21 1000", "0 990"};
        Bench bench = benchWith(rulers);
        for (int set = 0; set < 1 << rulers.length; set++) {
            List<String> chosen = new ArrayList<>();
            for (int k = 0; k < rulers.length; k++) {
                chosen.addAll((set >> k & 1) == 1 ? List.of(rulers[k]) : List.of());
            }
            due(bench, "apart(" + set + ")", areApart(chosen) ? 1L : 0L);
        }
    }
}
