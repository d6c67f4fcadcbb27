import java.util.ArrayList;
import java.util.Arrays;
import java.util.HashMap;
import java.util.HashSet;
import java.util.List;
import java.util.Map;
import java.util.Set;
import java.util.TreeSet;

/**
 * The document's words once more, as directly as they can be written and with the whole Java library: slow, and
 * without any of the short cuts of the class. What the class answers is held against this.
 */
final class Naive {
    /** MARKS and ROUND (0 of no RING). */
    record R(List<Integer> marks, int round) {
        int length() {
            return marks.get(marks.size() - 1);
        }
    }

    private static final Map<List<Integer>, Object> KNOWN = new HashMap<>();

    private final long[][] sticks = new long[6][];
    private final int[] kinds = new int[6];
    private final R[] shelves = new R[16];
    private int status = 0;

    // ---- Terms.

    static int measured(R r, int d) {
        int times = 0;
        for (int x : r.marks) {
            for (int y : r.marks) {
                boolean inRing = d <= r.round - 1 && r.round > 0 && (y - x + r.round) % r.round == d;
                if (d > 0 && (r.round == 0 ? y - x == d : inRing)) {
                    times++;
                }
            }
        }
        return times;
    }

    static int top(R r) {
        return r.round == 0 ? r.length() : r.round - 1;
    }

    static int leastTwice(R r) {
        for (int d = 1; d <= top(r); d++) {
            if (measured(r, d) >= 2) {
                return d;
            }
        }
        return 0;
    }

    static int leastLacking(R r) {
        for (int d = 1; d <= top(r); d++) {
            if (measured(r, d) == 0) {
                return d;
            }
        }
        return 0;
    }

    static int kind(R r) {
        if (r.round > 0) {
            return 5;
        }
        boolean sparse = leastTwice(r) == 0;
        boolean full = leastLacking(r) == 0;
        return sparse && full ? 4 : sparse ? 3 : full ? 2 : 1;
    }

    static int order(List<Integer> a, List<Integer> b) {
        for (int i = 0; i < a.size(); i++) {
            if (!a.get(i).equals(b.get(i))) {
                return Integer.compare(a.get(i), b.get(i));
            }
        }
        return 0;
    }

    static int gcd(int a, int b) {
        return b == 0 ? a : gcd(b, a % b);
    }

    static List<Integer> sorted(List<Integer> marks) {
        return new ArrayList<>(new TreeSet<>(marks));
    }

    static R turned(R r) {
        List<Integer> marks = new ArrayList<>();
        for (int x : r.marks) {
            marks.add(r.round == 0 ? r.length() - x : Math.floorMod(-x, r.round));
        }
        return new R(sorted(marks), r.round);
    }

    static List<R> alikes(R r) {
        if (r.round == 0) {
            return List.of(r, turned(r));
        }
        List<R> all = new ArrayList<>();
        for (int a = 1; a <= r.round; a++) {
            for (int b = 0; b < r.round && gcd(a, r.round) == 1; b++) {
                boolean zero = false;
                for (int x : r.marks) {
                    zero |= (a * x + b) % r.round == 0;
                }
                if (zero) {
                    List<Integer> marks = new ArrayList<>();
                    for (int x : r.marks) {
                        marks.add((a * x + b) % r.round);
                    }
                    all.add(new R(sorted(marks), r.round));
                }
            }
        }
        return all;
    }

    static R formOf(R r) {
        R first = r;
        for (R other : alikes(r)) {
            first = order(other.marks, first.marks) < 0 ? other : first;
        }
        return first;
    }

    static boolean ownForm(R r) {
        return formOf(r).equals(r);
    }

    // ---- Searches, each kept once it is made.

    /** All rows 0 < .. of so many MARKS with the last one at most (or just, if exact) a length, in ORDER. */
    static List<List<Integer>> rows(int marks, int length, boolean exact) {
        List<List<Integer>> all = new ArrayList<>();
        collect(new ArrayList<>(List.of(0)), marks, length, exact, all);
        return all;
    }

    private static void collect(List<Integer> row, int marks, int length, boolean exact, List<List<Integer>> all) {
        int last = row.get(row.size() - 1);
        if (row.size() == marks) {
            if (!exact || last == length) {
                all.add(new ArrayList<>(row));
            }
            return;
        }
        for (int y = last + 1; y <= length; y++) {
            row.add(y);
            collect(row, marks, length, exact, all);
            row.remove(row.size() - 1);
        }
    }

    /** Rows of MARKS of a kind (sparse, or full) that are their own FORM. */
    private static List<R> ofKind(int marks, int length, boolean exact, boolean sparse) {
        List<R> found = new ArrayList<>();
        for (List<Integer> row : rows(marks, length, exact)) {
            R r = new R(row, 0);
            if ((sparse ? leastTwice(r) : leastLacking(r)) == 0 && ownForm(r)) {
                found.add(r);
            }
        }
        return found;
    }

    @SuppressWarnings("unchecked")
    static List<R> bestOf(int marks) {
        List<Integer> key = List.of(1, marks);
        for (int length = marks - 1; !KNOWN.containsKey(key); length++) {
            List<R> found = ofKind(marks, length, true, true);
            if (!found.isEmpty()) {
                KNOWN.put(key, found);
            }
        }
        return (List<R>) KNOWN.get(key);
    }

    @SuppressWarnings("unchecked")
    static List<R> leanOf(int length) {
        List<Integer> key = List.of(2, length);
        for (int marks = 1; !KNOWN.containsKey(key); marks++) {
            List<R> found = ofKind(marks, length, true, false);
            if (!found.isEmpty()) {
                KNOWN.put(key, found);
            }
        }
        return (List<R>) KNOWN.get(key);
    }

    @SuppressWarnings("unchecked")
    static List<R> ringsOf(int round, int marks) {
        List<Integer> key = List.of(3, round, marks);
        if (!KNOWN.containsKey(key)) {
            List<R> found = new ArrayList<>();
            collectRings(new R(new ArrayList<>(List.of(0)), round), marks, found);
            KNOWN.put(key, found);
        }
        return (List<R>) KNOWN.get(key);
    }

    private static void collectRings(R r, int marks, List<R> found) {
        if (leastTwice(r) != 0) {
            return;
        }
        if (r.marks.size() == marks) {
            R copy = new R(new ArrayList<>(r.marks), r.round);
            if (ownForm(copy)) {
                found.add(copy);
            }
            return;
        }
        for (int y = r.length() + 1; y < r.round; y++) {
            r.marks.add(y);
            collectRings(r, marks, found);
            r.marks.remove(r.marks.size() - 1);
        }
    }

    static int[] casesOf(int marks, int length) {
        List<Integer> key = List.of(4, marks, length);
        if (!KNOWN.containsKey(key)) {
            int[] counts = new int[2];
            visit(new R(new ArrayList<>(List.of(0)), 0), marks, length, counts);
            KNOWN.put(key, counts);
        }
        return (int[]) KNOWN.get(key);
    }

    private static void visit(R r, int m, int n, int[] counts) {
        counts[0]++;
        int k = r.marks.size();
        boolean twice = leastTwice(r) != 0;
        if (k == m && !twice) {
            counts[1]++;
        }
        int sum = r.length();
        int left = m - k;
        for (int d = 1; left > 0; d++) {
            if (measured(r, d) == 0) {
                sum += d;
                left--;
            }
        }
        if (twice || sum > n || k == m) {
            return;
        }
        for (int y = r.length() + 1; y <= n; y++) {
            r.marks.add(y);
            visit(r, m, n, counts);
            r.marks.remove(r.marks.size() - 1);
        }
    }

    static boolean areApart(List<R> rulers) {
        for (int i = 0; i < rulers.size(); i++) {
            if (kind(rulers.get(i)) < 3) {
                return false;
            }
            for (int j = 0; j < i; j++) {
                for (int d = 1; d <= 1000; d++) {
                    if (measured(rulers.get(i), d) > 0 && measured(rulers.get(j), d) > 0) {
                        return false;
                    }
                }
            }
        }
        return true;
    }

    @SuppressWarnings("unchecked")
    static List<R> gangOf(int rulers, int marks) {
        List<Integer> key = List.of(5, rulers, marks);
        if (!KNOWN.containsKey(key)) {
            // Every gang up to a generous length: the best one of them all is taken, by comparing.
            List<R> pool = ofKind(marks, marks == 4 ? 14 : 12, false, true);
            List<List<R>> best = new ArrayList<>();
            gather(pool, 0, rulers, new ArrayList<>(), best);
            KNOWN.put(key, best.get(0));
        }
        return (List<R>) KNOWN.get(key);
    }

    private static void gather(List<R> pool, int from, int rulers, List<R> gang, List<List<R>> best) {
        if (!areApart(gang)) {
            return;
        }
        if (gang.size() == rulers) {
            if (best.isEmpty() || isBetter(gang, best.get(0))) {
                best.clear();
                best.add(new ArrayList<>(gang));
            }
            return;
        }
        for (int i = from; i < pool.size(); i++) {
            gang.add(pool.get(i));
            gather(pool, i + 1, rulers, gang, best);
            gang.remove(gang.size() - 1);
        }
    }

    static int greatest(List<R> gang) {
        int length = 0;
        for (R r : gang) {
            length = Math.max(length, r.length());
        }
        return length;
    }

    private static boolean isBetter(List<R> gang, List<R> other) {
        if (greatest(gang) != greatest(other)) {
            return greatest(gang) < greatest(other);
        }
        for (int i = 0; i < gang.size(); i++) {
            int order = order(gang.get(i).marks, other.get(i).marks);
            if (order != 0) {
                return order < 0;
            }
        }
        return false;
    }

    static R linesOf(int p) {
        List<Integer> key = List.of(6, p);
        for (int n = 0; !KNOWN.containsKey(key); n++) {
            int a = n / p / p;
            int b = n / p % p;
            int c = n % p;
            List<List<Integer>> powers = new ArrayList<>();
            int tt = 0;
            int t = 0;
            int one = 1;
            for (int i = 0; i < p * p * p - 1; i++) {
                powers.add(List.of(tt, t, one));
                int nextTt = (tt * a + t) % p;
                int nextT = (tt * b + one) % p;
                one = tt * c % p;
                tt = nextTt;
                t = nextT;
            }
            Set<List<Integer>> unlike = new HashSet<>(powers);
            if (unlike.size() == p * p * p - 1 && !unlike.contains(List.of(0, 0, 0))) {
                List<Integer> marks = new ArrayList<>();
                for (int i = 0; i <= p * p + p; i++) {
                    if (powers.get(i).get(0) == 0) {
                        marks.add(i);
                    }
                }
                KNOWN.put(key, lessLeast(marks, p * p + p + 1));
            }
        }
        return (R) KNOWN.get(key);
    }

    static R powersOf(int p) {
        List<Integer> key = List.of(7, p);
        for (int n = 0; !KNOWN.containsKey(key); n++) {
            int a = n / p;
            int b = n % p;
            List<List<Integer>> powers = new ArrayList<>();
            int t = 0;
            int one = 1;
            for (int i = 0; i < p * p - 1; i++) {
                powers.add(List.of(t, one));
                int nextT = (t * a + one) % p;
                one = t * b % p;
                t = nextT;
            }
            Set<List<Integer>> unlike = new HashSet<>(powers);
            if (unlike.size() == p * p - 1 && !unlike.contains(List.of(0, 0))) {
                List<Integer> marks = new ArrayList<>();
                for (int i = 0; i <= p * p - 2; i++) {
                    if (powers.get(i).get(0) == 1) {
                        marks.add(i);
                    }
                }
                KNOWN.put(key, lessLeast(marks, p * p - 1));
            }
        }
        return (R) KNOWN.get(key);
    }

    private static R lessLeast(List<Integer> numbers, int round) {
        List<Integer> marks = new ArrayList<>();
        for (int i : numbers) {
            marks.add(i - numbers.get(0));
        }
        return new R(marks, round);
    }

    // ---- The calls.

    /** STATUS is the first number whose condition holds; conditions come as pairs of number and 1 or 0. */
    private boolean bars(int number, boolean holds) {
        if (holds) {
            status = number;
        }
        return holds;
    }

    private boolean noStick(int stick) {
        return bars(1, stick < 0 || stick > 5);
    }

    private boolean noShelf(int shelf) {
        return bars(2, shelf < 0 || shelf > 15);
    }

    private boolean missing(int stick) {
        return bars(3, sticks[stick] == null);
    }

    private boolean nothing(int shelf) {
        return bars(4, shelves[shelf] == null);
    }

    private <T> T fine(T answer) {
        status = 0;
        return answer;
    }

    int status() {
        return status;
    }

    boolean stick(int stick, int kind, int many) {
        if (noStick(stick) || bars(5, kind < 0 || kind > 2 || many < 0 || many > 24)) {
            return false;
        }
        sticks[stick] = new long[many];
        kinds[stick] = kind;
        return fine(true);
    }

    boolean drop(int stick) {
        if (noStick(stick) || missing(stick)) {
            return false;
        }
        sticks[stick] = null;
        return fine(true);
    }

    boolean put(int stick, int place, long v) {
        if (noStick(stick) || missing(stick) || bars(6, place < 0 || place >= sticks[stick].length)) {
            return false;
        }
        int spare = kinds[stick] == 0 ? 56 : kinds[stick] == 1 ? 32 : 0;
        sticks[stick][place] = v << spare >> spare;
        return fine(true);
    }

    long number(int stick, int place) {
        if (noStick(stick) || missing(stick) || bars(6, place < 0 || place >= sticks[stick].length)) {
            return -1;
        }
        return fine(sticks[stick][place]);
    }

    boolean cut(int stick, int many) {
        if (noStick(stick) || missing(stick) || bars(5, many < 0) || bars(6, many > sticks[stick].length)) {
            return false;
        }
        sticks[stick] = Arrays.copyOf(sticks[stick], many);
        return fine(true);
    }

    boolean fail() {
        status = 10;
        return false;
    }

    int ruler(int shelf, int stick, int many) {
        if (noStick(stick) || noShelf(shelf) || missing(stick) || bars(5, many < 1)
            || bars(6, many > sticks[stick].length)) {
            return -1;
        }
        List<Integer> marks = new ArrayList<>();
        for (int i = 0; i < many; i++) {
            java.math.BigInteger far = java.math.BigInteger.valueOf(sticks[stick][i])
                .subtract(java.math.BigInteger.valueOf(sticks[stick][0]));
            boolean falls = i > 0 && sticks[stick][i] <= sticks[stick][i - 1];
            if (bars(7, falls || far.compareTo(java.math.BigInteger.valueOf(1000)) > 0)) {
                return -1;
            }
            marks.add(far.intValueExact());
        }
        shelves[shelf] = new R(marks, 0);
        return fine(kind(shelves[shelf]));
    }

    boolean ring(int shelf, int round) {
        if (noShelf(shelf) || nothing(shelf)
            || bars(5, round < 2 || round > 400 || round <= shelves[shelf].length())) {
            return false;
        }
        R r = new R(shelves[shelf].marks, round);
        if (bars(8, leastTwice(r) != 0)) {
            return false;
        }
        shelves[shelf] = r;
        return fine(true);
    }

    int tell(int shelf, int what) {
        if (noShelf(shelf) || nothing(shelf) || bars(5, what < 0 || what > 3)) {
            return -1;
        }
        R r = shelves[shelf];
        return fine(new int[] {kind(r), r.marks.size(), r.length(), r.round}[what]);
    }

    int mark(int shelf, int i) {
        if (noShelf(shelf) || nothing(shelf) || bars(5, i < 0 || i >= shelves[shelf].marks.size())) {
            return -1;
        }
        return fine(shelves[shelf].marks.get(i));
    }

    int measures(int shelf, int d) {
        if (noShelf(shelf) || nothing(shelf) || bars(5, d < 1)) {
            return -1;
        }
        return fine(measured(shelves[shelf], d));
    }

    int lacks(int shelf) {
        return noShelf(shelf) || nothing(shelf) ? -1 : fine(leastLacking(shelves[shelf]));
    }

    int twice(int shelf) {
        return noShelf(shelf) || nothing(shelf) ? -1 : fine(leastTwice(shelves[shelf]));
    }

    int add(int shelf, int x) {
        if (noShelf(shelf) || nothing(shelf) || bars(5, x < 1 || x > 1000) || bars(8, shelves[shelf].round > 0)
            || bars(9, shelves[shelf].marks.contains(x) || shelves[shelf].marks.size() == 24)) {
            return -1;
        }
        List<Integer> marks = new ArrayList<>(shelves[shelf].marks);
        marks.add(x);
        shelves[shelf] = new R(sorted(marks), 0);
        return fine(kind(shelves[shelf]));
    }

    int take(int shelf, int x) {
        if (noShelf(shelf) || nothing(shelf) || bars(8, shelves[shelf].round > 0)
            || bars(9, !shelves[shelf].marks.contains(x) || shelves[shelf].marks.size() == 1)) {
            return -1;
        }
        List<Integer> marks = new ArrayList<>(shelves[shelf].marks);
        marks.remove(Integer.valueOf(x));
        shelves[shelf] = lessLeast(marks, 0);
        return fine(kind(shelves[shelf]));
    }

    int grow(int shelf) {
        if (noShelf(shelf) || nothing(shelf)
            || bars(8, shelves[shelf].round > 0 || leastTwice(shelves[shelf]) != 0)
            || bars(9, shelves[shelf].marks.size() == 24)) {
            return -1;
        }
        R r = shelves[shelf];
        for (int y = r.length() + 1; !bars(7, y > 1000); y++) {
            List<Integer> marks = new ArrayList<>(r.marks);
            marks.add(y);
            if (leastTwice(new R(marks, 0)) == 0) {
                shelves[shelf] = new R(marks, 0);
                return fine(y);
            }
        }
        return -1;
    }

    boolean turn(int shelf, int to) {
        if (noShelf(shelf) || noShelf(to) || nothing(shelf)) {
            return false;
        }
        shelves[to] = turned(shelves[shelf]);
        return fine(true);
    }

    int form(int shelf, int to) {
        if (noShelf(shelf) || noShelf(to) || nothing(shelf)) {
            return -1;
        }
        R first = formOf(shelves[shelf]);
        int same = first.equals(shelves[shelf]) ? 1 : 0;
        shelves[to] = first;
        return fine(same);
    }

    int alike(int a, int b) {
        if (noShelf(a) || noShelf(b) || nothing(a) || nothing(b)) {
            return -1;
        }
        return fine(alikes(shelves[a]).contains(shelves[b]) ? 1 : 0);
    }

    boolean factor(int shelf, int k, int to) {
        if (noShelf(shelf) || noShelf(to) || nothing(shelf) || bars(5, k < 1 || k > 400)
            || bars(8, shelves[shelf].round == 0 || gcd(k, shelves[shelf].round) != 1)) {
            return false;
        }
        List<Integer> marks = new ArrayList<>();
        for (int x : shelves[shelf].marks) {
            marks.add(k * x % shelves[shelf].round);
        }
        shelves[to] = new R(sorted(marks), shelves[shelf].round);
        return fine(true);
    }

    int open(int shelf, int i, int place, int to) {
        if (noShelf(shelf) || noShelf(to) || nothing(shelf)
            || bars(5, i < 0 || i >= shelves[shelf].marks.size() || place < 0)
            || bars(8, shelves[shelf].round == 0)) {
            return -1;
        }
        List<Integer> marks = new ArrayList<>();
        int from = shelves[shelf].marks.get(i);
        for (int x : shelves[shelf].marks) {
            int far = x < from ? x - from + shelves[shelf].round : x - from;
            if (far <= place) {
                marks.add(far);
            }
        }
        shelves[to] = new R(sorted(marks), 0);
        return fine(kind(shelves[to]));
    }

    int shortest(int marks) {
        return bars(5, marks < 1 || marks > 7) ? -1 : fine(bestOf(marks).get(0).length());
    }

    int many(int marks) {
        return bars(5, marks < 1 || marks > 7) ? -1 : fine(bestOf(marks).size());
    }

    boolean best(int marks, int i, int to) {
        if (noShelf(to) || bars(5, marks < 1 || marks > 7) || bars(9, i < 0 || i >= bestOf(marks).size())) {
            return false;
        }
        shelves[to] = bestOf(marks).get(i);
        return fine(true);
    }

    int fewest(int length) {
        return bars(5, length < 0 || length > 24) ? -1 : fine(leanOf(length).get(0).marks.size());
    }

    int lean(int length, int i, int to) {
        if (noShelf(to) || bars(5, length < 0 || length > 24) || bars(9, i < 0 || i >= leanOf(length).size())) {
            return -1;
        }
        shelves[to] = leanOf(length).get(i);
        return fine(leanOf(length).size());
    }

    int rings(int round, int marks, int i, int to) {
        if (noShelf(to) || bars(5, round < 2 || round > 40 || marks < 1 || marks > 6)
            || bars(9, i < 0 || i >= ringsOf(round, marks).size())) {
            return -1;
        }
        shelves[to] = ringsOf(round, marks).get(i);
        return fine(ringsOf(round, marks).size());
    }

    int cases(int marks, int length, int what) {
        if (bars(5, marks < 2 || marks > 6 || length < 1 || length > 20 || what < 0 || what > 1)) {
            return -1;
        }
        return fine(casesOf(marks, length)[what]);
    }

    int apart(int set) {
        if (bars(5, set < 0 || set > 65535)) {
            return -1;
        }
        List<R> rulers = new ArrayList<>();
        for (int k = 0; k < 16; k++) {
            if ((set & 1 << k) != 0) {
                if (nothing(k)) {
                    return -1;
                }
                rulers.add(shelves[k]);
            }
        }
        for (R r : rulers) {
            if (bars(8, r.round > 0)) {
                return -1;
            }
        }
        return fine(areApart(rulers) ? 1 : 0);
    }

    int gang(int rulers, int marks, int k, int to) {
        if (noShelf(to) || bars(5, rulers < 1 || rulers > 3 || marks < 2 || marks > 4 || rulers == 3 && marks == 4
            || k < 0 || k >= rulers)) {
            return -1;
        }
        shelves[to] = gangOf(rulers, marks).get(k);
        return fine(greatest(gangOf(rulers, marks)));
    }

    boolean lines(int p, int to) {
        if (noShelf(to) || bars(5, !List.of(2, 3, 5, 7, 11, 13, 17, 19).contains(p))) {
            return false;
        }
        shelves[to] = linesOf(p);
        return fine(true);
    }

    boolean powers(int p, int to) {
        if (noShelf(to) || bars(5, !List.of(3, 5, 7, 11, 13, 17, 19).contains(p))) {
            return false;
        }
        shelves[to] = powersOf(p);
        return fine(true);
    }
}
