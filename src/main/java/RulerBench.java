import java.util.Arrays;

/** A ruler maker's bench: sixteen shelves of rulers and rings, six sticks of numbers, and searches for good rulers. */
public final class RulerBench {
    public static final int NONE = -1;

    private static final int STICKS = 6;
    private static final int SHELVES = 16;
    private static final int ALL_SHELVES = 65535;
    private static final int MOST_MARKS = 24;
    private static final int LONGEST = 1000;
    private static final int WIDEST_ROUND = 400;
    private static final int LARGEST_PRIME = 19;
    private static final int[] PRIMES = {2, 3, 5, 7, 11, 13, 17, 19};

    private static final int FINE = 0;
    private static final int NO_STICK = 1;
    private static final int NO_SHELF = 2;
    private static final int STICK_MISSING = 3;
    private static final int SHELF_EMPTY = 4;
    private static final int BAD_NUMBER = 5;
    private static final int NO_PLACE = 6;
    private static final int NOT_RISING = 7;
    private static final int OTHER_RULER = 8;
    private static final int TOO_MANY = 9;
    private static final int FAILURE = 10;

    private static final int KIND_ELSE = 1;
    private static final int KIND_FULL = 2;
    private static final int KIND_SPARSE = 3;
    private static final int KIND_PERFECT = 4;
    private static final int KIND_RING = 5;

    private final Stick[] sticks = new Stick[STICKS];
    private final Ruler[] shelves = new Ruler[SHELVES];
    // What a call makes is made here first, since it may come to the very SHELF that it is made from.
    private final Ruler made = new Ruler();
    private final Lengths lengths = new Lengths();
    private final Forms forms = new Forms();
    private final SparseSearch sparse;
    private final LeanSearch leanest;
    private final RingSearch ringSearch;
    private final GangSearch gangs;
    private final CaseCount caseCount = new CaseCount();
    private final Field field = new Field();
    private int status = FINE;

    public RulerBench() {
        for (int i = 0; i < STICKS; i++) {
            sticks[i] = new Stick();
        }
        for (int i = 0; i < SHELVES; i++) {
            shelves[i] = new Ruler();
        }
        Found found = new Found();
        sparse = new SparseSearch(found);
        leanest = new LeanSearch(found);
        ringSearch = new RingSearch(found, forms);
        gangs = new GangSearch(sparse);
    }

    public int status() {
        return status;
    }

    // ---- STICKS.

    public boolean stick(int stick, int kind, int many) {
        boolean bad = kind < 0 || kind > Stick.WIDEST_KIND || many < 0 || many > MOST_MARKS;
        if (!passes(!isStick(stick) ? NO_STICK : bad ? BAD_NUMBER : FINE)) {
            return false;
        }
        sticks[stick].make(kind, many);
        return true;
    }

    public boolean drop(int stick) {
        if (!passes(stickFault(stick))) {
            return false;
        }
        sticks[stick].lose();
        return true;
    }

    public boolean put(int stick, int place, long v) {
        if (!passes(placeFault(stick, place))) {
            return false;
        }
        sticks[stick].write(place, v);
        return true;
    }

    public long number(int stick, int place) {
        if (!passes(placeFault(stick, place))) {
            return NONE;
        }
        return sticks[stick].read(place);
    }

    public boolean cut(int stick, int many) {
        int fault = stickFault(stick);
        if (fault == FINE) {
            fault = many < 0 ? BAD_NUMBER : many > sticks[stick].size ? NO_PLACE : FINE;
        }
        if (!passes(fault)) {
            return false;
        }
        sticks[stick].size = many;
        return true;
    }

    public boolean fail() {
        return passes(FAILURE);
    }

    // ---- RULERS.

    public int ruler(int shelf, int stick, int many) {
        if (!passes(rulerFault(shelf, stick, many))) {
            return NONE;
        }
        Ruler ruler = shelves[shelf];
        ruler.begin(0);
        for (int i = 0; i < many; i++) {
            ruler.insert(sticks[stick].markAt(i));
        }
        return kindOf(ruler);
    }

    public boolean ring(int shelf, int round) {
        int fault = shelfFault(shelf);
        if (fault == FINE) {
            fault = roundFault(shelves[shelf], round);
        }
        if (!passes(fault)) {
            return false;
        }
        shelves[shelf].round = round;
        return true;
    }

    public int tell(int shelf, int what) {
        int fault = shelfFault(shelf);
        if (!passes(fault == FINE && (what < 0 || what > 3) ? BAD_NUMBER : fault)) {
            return NONE;
        }
        Ruler ruler = shelves[shelf];
        switch (what) {
            case 0:
                return kindOf(ruler);
            case 1:
                return ruler.count;
            case 2:
                return ruler.length();
            default:
                return ruler.round;
        }
    }

    public int mark(int shelf, int i) {
        int fault = shelfFault(shelf);
        if (!passes(fault == FINE && !shelves[shelf].has(i) ? BAD_NUMBER : fault)) {
            return NONE;
        }
        return shelves[shelf].at(i);
    }

    public int measures(int shelf, int d) {
        int fault = shelfFault(shelf);
        if (!passes(fault == FINE && d < 1 ? BAD_NUMBER : fault)) {
            return NONE;
        }
        lengths.measure(shelves[shelf]);
        return lengths.timesOf(d);
    }

    public int lacks(int shelf) {
        if (!passes(shelfFault(shelf))) {
            return NONE;
        }
        lengths.measure(shelves[shelf]);
        return lengths.leastMissing();
    }

    public int twice(int shelf) {
        if (!passes(shelfFault(shelf))) {
            return NONE;
        }
        lengths.measure(shelves[shelf]);
        return lengths.leastRepeated();
    }

    public int add(int shelf, int x) {
        int fault = shelfFault(shelf);
        if (fault == FINE) {
            fault = addFault(shelves[shelf], x);
        }
        if (!passes(fault)) {
            return NONE;
        }
        shelves[shelf].insert(x);
        return kindOf(shelves[shelf]);
    }

    public int take(int shelf, int x) {
        int fault = shelfFault(shelf);
        if (fault == FINE) {
            fault = takeFault(shelves[shelf], x);
        }
        if (!passes(fault)) {
            return NONE;
        }
        shelves[shelf].remove(x);
        return kindOf(shelves[shelf]);
    }

    public int grow(int shelf) {
        int fault = shelfFault(shelf);
        if (fault == FINE) {
            lengths.measure(shelves[shelf]);
            fault = growFault(shelves[shelf]);
        }
        // The document has 7 asked last here, behind 8 and 9.
        int next = fault == FINE ? lengths.nextUnlike(shelves[shelf]) : NONE;
        if (!passes(fault == FINE && next == NONE ? NOT_RISING : fault)) {
            return NONE;
        }
        shelves[shelf].insert(next);
        return next;
    }

    public boolean turn(int shelf, int to) {
        if (!passes(moveFault(shelf, to))) {
            return false;
        }
        made.turnFrom(shelves[shelf]);
        shelves[to].copy(made);
        return true;
    }

    public int form(int shelf, int to) {
        if (!passes(moveFault(shelf, to))) {
            return NONE;
        }
        Ruler first = forms.formOf(shelves[shelf]);
        boolean asItWas = first.sameMarks(shelves[shelf]);
        shelves[to].copy(first);
        return asItWas ? 1 : 0;
    }

    public int alike(int a, int b) {
        int fault = moveFault(a, b);
        if (!passes(fault == FINE ? shelfFault(b) : fault)) {
            return NONE;
        }
        Ruler one = shelves[a];
        Ruler other = shelves[b];
        if (one.round != other.round || one.count != other.count) {
            return 0;
        }
        made.copy(forms.formOf(one));
        return made.sameMarks(forms.formOf(other)) ? 1 : 0;
    }

    public boolean factor(int shelf, int k, int to) {
        int fault = moveFault(shelf, to);
        if (fault == FINE) {
            fault = factorFault(shelves[shelf], k);
        }
        if (!passes(fault)) {
            return false;
        }
        made.multiplyFrom(shelves[shelf], k);
        shelves[to].copy(made);
        return true;
    }

    public int open(int shelf, int i, int place, int to) {
        int fault = moveFault(shelf, to);
        if (fault == FINE) {
            Ruler ring = shelves[shelf];
            fault = !ring.has(i) || place < 0 ? BAD_NUMBER : !ring.isRing() ? OTHER_RULER : FINE;
        }
        if (!passes(fault)) {
            return NONE;
        }
        made.openFrom(shelves[shelf], i, place);
        shelves[to].copy(made);
        return kindOf(made);
    }

    // ---- SEARCHES.

    public int shortest(int marks) {
        if (!passes(SparseSearch.knows(marks) ? FINE : BAD_NUMBER)) {
            return NONE;
        }
        return sparse.shortestOf(marks);
    }

    public int many(int marks) {
        if (!passes(SparseSearch.knows(marks) ? FINE : BAD_NUMBER)) {
            return NONE;
        }
        return sparse.bestOf(marks).length;
    }

    public boolean best(int marks, int i, int to) {
        if (!passes(searchFault(to, SparseSearch.knows(marks)))) {
            return false;
        }
        return settle(sparse.bestOf(marks), i, 0, to) != NONE;
    }

    public int fewest(int length) {
        if (!passes(LeanSearch.knows(length) ? FINE : BAD_NUMBER)) {
            return NONE;
        }
        return leanest.fewestOf(length);
    }

    public int lean(int length, int i, int to) {
        if (!passes(searchFault(to, LeanSearch.knows(length)))) {
            return NONE;
        }
        return settle(leanest.leanOf(length), i, 0, to);
    }

    public int rings(int round, int marks, int i, int to) {
        if (!passes(searchFault(to, RingSearch.knows(round, marks)))) {
            return NONE;
        }
        return settle(ringSearch.ringsOf(round, marks), i, round, to);
    }

    public int cases(int marks, int length, int what) {
        boolean known = CaseCount.knows(marks, length) && what >= 0 && what <= 1;
        if (!passes(known ? FINE : BAD_NUMBER)) {
            return NONE;
        }
        return what == 0 ? caseCount.inAll(marks, length) : caseCount.whole(marks, length);
    }

    public int apart(int set) {
        if (!passes(setFault(set))) {
            return NONE;
        }
        // A length that two RULERS share, and one that a RULER has twice, are both counted twice over the whole set.
        lengths.clear(LONGEST);
        for (int k = 0; k < SHELVES; k++) {
            if (isInSet(set, k)) {
                lengths.count(shelves[k], 0);
            }
        }
        return lengths.leastRepeated() == 0 ? 1 : 0;
    }

    public int gang(int rulers, int marks, int k, int to) {
        boolean known = GangSearch.knows(rulers, marks) && k >= 0 && k < rulers;
        if (!passes(searchFault(to, known))) {
            return NONE;
        }
        shelves[to].readMask(gangs.rulerOf(rulers, marks, k), 0);
        return gangs.greatestOf(rulers, marks);
    }

    public boolean lines(int p, int to) {
        if (!passes(searchFault(to, isPrime(p)))) {
            return false;
        }
        field.writeLines(p, shelves[to]);
        return true;
    }

    public boolean powers(int p, int to) {
        if (!passes(searchFault(to, isPrime(p) && p != 2))) {
            return false;
        }
        field.writePowers(p, shelves[to]);
        return true;
    }

    // ---- What may stand against a call, asked in the order of the STATUS numbers (but for grow and apart).

    private boolean passes(int fault) {
        status = fault;
        return fault == FINE;
    }

    private static boolean isStick(int stick) {
        return stick >= 0 && stick < STICKS;
    }

    private static boolean isShelf(int shelf) {
        return shelf >= 0 && shelf < SHELVES;
    }

    private static boolean isInSet(int set, int shelf) {
        return (set >> shelf & 1) == 1;
    }

    private static boolean isPrime(int p) {
        for (int prime : PRIMES) {
            if (prime == p) {
                return true;
            }
        }
        return false;
    }

    private int stickFault(int stick) {
        return !isStick(stick) ? NO_STICK : !sticks[stick].there ? STICK_MISSING : FINE;
    }

    private int placeFault(int stick, int place) {
        int fault = stickFault(stick);
        if (fault != FINE) {
            return fault;
        }
        return place < 0 || place >= sticks[stick].size ? NO_PLACE : FINE;
    }

    private int rulerFault(int shelf, int stick, int many) {
        if (!isStick(stick)) {
            return NO_STICK;
        }
        if (!isShelf(shelf)) {
            return NO_SHELF;
        }
        Stick row = sticks[stick];
        if (!row.there) {
            return STICK_MISSING;
        }
        if (many < 1) {
            return BAD_NUMBER;
        }
        if (many > row.size) {
            return NO_PLACE;
        }
        return row.rises(many) ? FINE : NOT_RISING;
    }

    private int shelfFault(int shelf) {
        return !isShelf(shelf) ? NO_SHELF : shelves[shelf].isEmpty() ? SHELF_EMPTY : FINE;
    }

    private int moveFault(int shelf, int to) {
        return isShelf(to) ? shelfFault(shelf) : NO_SHELF;
    }

    private static int searchFault(int to, boolean known) {
        return !isShelf(to) ? NO_SHELF : !known ? BAD_NUMBER : FINE;
    }

    private int roundFault(Ruler ruler, int round) {
        if (round < 2 || round > WIDEST_ROUND || round <= ruler.length()) {
            return BAD_NUMBER;
        }
        lengths.clear(round - 1);
        lengths.count(ruler, round);
        return lengths.leastRepeated() != 0 ? OTHER_RULER : FINE;
    }

    private static int addFault(Ruler ruler, int x) {
        if (x < 1 || x > LONGEST) {
            return BAD_NUMBER;
        }
        if (ruler.isRing()) {
            return OTHER_RULER;
        }
        return ruler.count >= MOST_MARKS || ruler.find(x) != NONE ? TOO_MANY : FINE;
    }

    private static int takeFault(Ruler ruler, int x) {
        if (ruler.isRing()) {
            return OTHER_RULER;
        }
        return ruler.count < 2 || ruler.find(x) == NONE ? TOO_MANY : FINE;
    }

    private int growFault(Ruler ruler) {
        if (ruler.isRing() || lengths.leastRepeated() != 0) {
            return OTHER_RULER;
        }
        return ruler.count >= MOST_MARKS ? TOO_MANY : FINE;
    }

    private static int factorFault(Ruler ruler, int k) {
        if (k < 1 || k > WIDEST_ROUND) {
            return BAD_NUMBER;
        }
        return !ruler.isRing() || commonDivisor(k, ruler.round) != 1 ? OTHER_RULER : FINE;
    }

    private int setFault(int set) {
        if (set < 0 || set > ALL_SHELVES) {
            return BAD_NUMBER;
        }
        boolean ringThere = false;
        for (int k = 0; k < SHELVES; k++) {
            if (isInSet(set, k)) {
                if (shelves[k].isEmpty()) {
                    return SHELF_EMPTY;
                }
                ringThere |= shelves[k].isRing();
            }
        }
        return ringThere ? OTHER_RULER : FINE;
    }

    // ---- What calls have in common.

    private int kindOf(Ruler ruler) {
        if (ruler.isRing()) {
            return KIND_RING;
        }
        lengths.measure(ruler);
        boolean none = lengths.leastRepeated() == 0;
        boolean each = lengths.leastMissing() == 0;
        return none && each ? KIND_PERFECT : none ? KIND_SPARSE : each ? KIND_FULL : KIND_ELSE;
    }

    /** Puts number i of what a search found on a SHELF, if there is one: how many were found. */
    private int settle(long[] masks, int i, int round, int to) {
        if (!passes(i < 0 || i >= masks.length ? TOO_MANY : FINE)) {
            return NONE;
        }
        shelves[to].readMask(masks[i], round);
        return masks.length;
    }

    private static int commonDivisor(int a, int b) {
        int whole = a;
        int part = b;
        // Two steps halve a number at least, so 64 are enough for any int.
        for (int i = 0; i < 64 && part != 0; i++) {
            int rest = whole % part;
            whole = part;
            part = rest;
        }
        return whole;
    }

    /** Whether a RULER (bit x of the mask for MARK x) is not behind its own turned one by ORDER. */
    private static boolean isOwnForm(long mask, int length) {
        long turned = 0;
        for (int x = 0; x <= length; x++) {
            turned |= (mask >>> x & 1L) << (length - x);
        }
        // Of two RULERS of as many MARKS that one is first which alone has the least MARK that is not in both.
        long unlike = mask ^ turned;
        return unlike == 0 || (mask & unlike & -unlike) != 0;
    }

    private static int lengthOf(long mask) {
        int length = 0;
        for (int x = 1; x < 64; x++) {
            if ((mask >>> x & 1L) == 1L) {
                length = x;
            }
        }
        return length;
    }

    private static final class Stick {
        private static final int WIDEST_KIND = 2;

        private final long[] row = new long[MOST_MARKS];
        private int kind;
        private int size;
        private boolean there;

        void make(int newKind, int many) {
            kind = newKind;
            size = many;
            there = true;
            Arrays.fill(row, 0L);
        }

        void lose() {
            there = false;
            size = 0;
        }

        void write(int place, long v) {
            if (place >= 0 && place < size && place < row.length) {
                row[place] = kind == 0 ? (byte) v : kind == 1 ? (int) v : v;
            }
        }

        long read(int place) {
            return place >= 0 && place < size && place < row.length ? row[place] : NONE;
        }

        /** Whether the first numbers rise and go no further from the first one than a RULER may. */
        boolean rises(int many) {
            for (int i = 1; i < many && i < row.length; i++) {
                long far = row[i] - row[0];
                // Of a risen number a difference below 0 is one that is too great for 64 bits.
                if (row[i] <= row[i - 1] || far < 0 || far > LONGEST) {
                    return false;
                }
            }
            return true;
        }

        int markAt(int place) {
            return place >= 0 && place < row.length ? (int) (row[place] - row[0]) : 0;
        }
    }

    /** A RULER, or a RING if it has a round, or nothing if it has no MARK. */
    private static final class Ruler {
        private final int[] marks = new int[MOST_MARKS];
        private int count;
        private int round;

        void begin(int newRound) {
            count = 0;
            round = newRound;
        }

        boolean isEmpty() {
            return count == 0;
        }

        boolean isRing() {
            return round > 0;
        }

        int length() {
            return count > 0 && count <= marks.length ? marks[count - 1] : 0;
        }

        boolean has(int i) {
            return i >= 0 && i < count && i < marks.length;
        }

        int at(int i) {
            return has(i) ? marks[i] : NONE;
        }

        int find(int x) {
            for (int i = 0; i < count && i < marks.length; i++) {
                if (marks[i] == x) {
                    return i;
                }
            }
            return NONE;
        }

        void insert(int x) {
            if (count >= marks.length) {
                return;
            }
            int place = count;
            while (place > 0 && marks[place - 1] > x) {
                marks[place] = marks[place - 1];
                place--;
            }
            marks[place] = x;
            count++;
        }

        void remove(int x) {
            int place = find(x);
            if (place == NONE) {
                return;
            }
            for (int i = place; i + 1 < count && i + 1 < marks.length; i++) {
                marks[i] = marks[i + 1];
            }
            count--;
            int first = marks[0];
            for (int i = 0; i < count && i < marks.length; i++) {
                marks[i] -= first;
            }
        }

        void copy(Ruler other) {
            System.arraycopy(other.marks, 0, marks, 0, marks.length);
            count = other.count;
            round = other.round;
        }

        void readMask(long mask, int newRound) {
            begin(newRound);
            for (int x = 0; x < 64; x++) {
                if ((mask >>> x & 1L) == 1L) {
                    insert(x);
                }
            }
        }

        void turnFrom(Ruler other) {
            begin(other.round);
            for (int i = other.count - 1; i >= 0; i--) {
                int x = other.at(i);
                insert(!isRing() ? other.length() - x : x == 0 ? 0 : round - x);
            }
        }

        void multiplyFrom(Ruler other, int k) {
            begin(other.round);
            for (int i = 0; i < other.count && i < other.marks.length && round > 0; i++) {
                insert(other.marks[i] * k % round);
            }
        }

        void openFrom(Ruler other, int first, int place) {
            begin(0);
            for (int i = 0; i < other.count; i++) {
                int x = other.at(i) - other.at(first);
                int far = x < 0 ? x + other.round : x;
                if (far <= place) {
                    insert(far);
                }
            }
        }

        boolean sameMarks(Ruler other) {
            return count == other.count && !isBefore(other) && !other.isBefore(this);
        }

        boolean isBefore(Ruler other) {
            for (int i = 0; i < count && i < other.count; i++) {
                if (at(i) != other.at(i)) {
                    return at(i) < other.at(i);
                }
            }
            return false;
        }
    }

    /** How often each length from 1 to a top is MEASURED. */
    private static final class Lengths {
        private final int[] times = new int[LONGEST + 1];
        private int top;

        void measure(Ruler ruler) {
            clear(ruler.isRing() ? ruler.round - 1 : ruler.length());
            count(ruler, ruler.round);
        }

        void clear(int newTop) {
            top = newTop;
            Arrays.fill(times, 0);
        }

        /** The lengths of a RULER come in, as those of a RING if there is a round. */
        void count(Ruler ruler, int round) {
            for (int i = 1; i < ruler.count; i++) {
                for (int j = 0; j < i; j++) {
                    int d = ruler.at(i) - ruler.at(j);
                    countOne(d);
                    if (round > 0) {
                        countOne(round - d);
                    }
                }
            }
        }

        private void countOne(int d) {
            if (d >= 0 && d < times.length) {
                times[d]++;
            }
        }

        int timesOf(int d) {
            return d >= 0 && d < times.length ? times[d] : 0;
        }

        int leastMissing() {
            for (int d = 1; d <= top; d++) {
                if (timesOf(d) == 0) {
                    return d;
                }
            }
            return 0;
        }

        int leastRepeated() {
            for (int d = 1; d <= top; d++) {
                if (timesOf(d) > 1) {
                    return d;
                }
            }
            return 0;
        }

        /** The least MARK above the LENGTH that gives no length of those counted, or NONE. */
        int nextUnlike(Ruler ruler) {
            for (int y = ruler.length() + 1; y <= LONGEST; y++) {
                if (isUnlike(ruler, y)) {
                    return y;
                }
            }
            return NONE;
        }

        private boolean isUnlike(Ruler ruler, int y) {
            for (int i = 0; i < ruler.count; i++) {
                if (timesOf(y - ruler.at(i)) > 0) {
                    return false;
                }
            }
            return true;
        }
    }

    /** Finds FORMS. What formOf() hands out holds until it is asked again. */
    private static final class Forms {
        private final Ruler image = new Ruler();
        private final Ruler first = new Ruler();
        // The numbers without a common divisor with a ROUND; a search asks for thousands of FORMS of one ROUND.
        private final int[] units = new int[WIDEST_ROUND];
        private int unitCount;
        private int unitRound;

        Ruler formOf(Ruler ruler) {
            if (!ruler.isRing()) {
                image.turnFrom(ruler);
                first.copy(image.isBefore(ruler) ? image : ruler);
                return first;
            }
            first.copy(ruler);
            findUnits(ruler.round);
            for (int i = 0; i < unitCount && i < units.length; i++) {
                lowerBy(ruler, units[i]);
            }
            return first;
        }

        /** The same as whether formOf() leaves a RING as it is, but ends with the first that is before it. */
        boolean isOwnRingForm(Ruler ring) {
            first.copy(ring);
            findUnits(ring.round);
            for (int i = 0; i < unitCount && i < units.length; i++) {
                if (lowerBy(ring, units[i])) {
                    return false;
                }
            }
            return true;
        }

        private void findUnits(int round) {
            if (round == unitRound) {
                return;
            }
            unitRound = round;
            unitCount = 0;
            for (int a = 1; a < round && unitCount < units.length; a++) {
                if (commonDivisor(a, round) == 1) {
                    units[unitCount] = a;
                    unitCount++;
                }
            }
        }

        /** Each MARK of the RING times a is moved to 0 once; whether one of these is before the first so far. */
        private boolean lowerBy(Ruler ring, int a) {
            boolean lower = false;
            image.multiplyFrom(ring, a);
            for (int start = 0; start < image.count; start++) {
                if (isMovedBefore(start)) {
                    keepMoved(start);
                    lower = true;
                }
            }
            return lower;
        }

        private boolean isMovedBefore(int start) {
            for (int i = 1; i < image.count && i < first.marks.length; i++) {
                int unlike = movedMark(start, i) - first.marks[i];
                if (unlike != 0) {
                    return unlike < 0;
                }
            }
            return false;
        }

        private void keepMoved(int start) {
            first.begin(image.round);
            for (int i = 0; i < image.count; i++) {
                first.insert(movedMark(start, i));
            }
        }

        private int movedMark(int start, int i) {
            int place = start + i < image.count ? start + i : start + i - image.count;
            if (place < 0 || place >= image.marks.length || start < 0 || start >= image.marks.length) {
                return NONE;
            }
            int x = image.marks[place] - image.marks[start];
            return x < 0 ? x + image.round : x;
        }
    }

    /** What a search has found so far: RULERS as masks, bit x for MARK x. */
    private static final class Found {
        // LEAN of 24 is the longest of all rows, 472 RULERS.
        private final long[] masks = new long[512];
        private int size;

        void clear() {
            size = 0;
        }

        void note(long mask) {
            if (size < masks.length) {
                masks[size] = mask;
                size++;
            }
        }

        long[] row() {
            return Arrays.copyOf(masks, size);
        }
    }

    /**
     * Finds SPARSE and PERFECT RULERS. In the searches a bit x of "back" says that a MARK lies x behind the last one:
     * moved up by the step to a next MARK, these bits are the lengths that it brings.
     */
    private static final class SparseSearch {
        private static final int MOST = 7;
        private static final int FARTHEST = 60;

        private final Found found;
        private final long[][] kept = new long[MOST + 1][];
        private int limit;

        SparseSearch(Found found) {
            this.found = found;
        }

        static boolean knows(int marks) {
            return marks >= 1 && marks <= MOST;
        }

        int shortestOf(int marks) {
            long[] row = bestOf(marks);
            return row.length > 0 ? lengthOf(row[0]) : NONE;
        }

        long[] bestOf(int marks) {
            if (!knows(marks)) {
                return new long[0];
            }
            // So many unlike lengths have no room on a shorter RULER; the first LENGTH with one is the least.
            for (int length = marks * (marks - 1) / 2; kept[marks] == null && length <= FARTHEST; length++) {
                long[] row = upTo(marks, length);
                if (row.length > 0) {
                    kept[marks] = row;
                }
            }
            return kept[marks] == null ? new long[0] : kept[marks];
        }

        /** All of so many MARKS that are no longer than a LENGTH, each its own FORM, in ORDER. */
        long[] upTo(int marks, int length) {
            found.clear();
            limit = Math.min(length, FARTHEST);
            extend(1L, 0, Math.min(marks, MOST) - 1, 1L, 0L);
            return found.row();
        }

        private void extend(long mask, int last, int left, long back, long measured) {
            if (left <= 0) {
                if (isOwnForm(mask, last)) {
                    found.note(mask);
                }
                return;
            }
            // The steps between the MARKS to come are unlike lengths, so they take 1 + 2 + .. at least.
            int room = limit - left * (left - 1) / 2;
            for (int y = last + 1; y <= room; y++) {
                long more = back << (y - last);
                if ((more & measured) == 0) {
                    extend(mask | 1L << y, y, left - 1, more | 1L, measured | more);
                }
            }
        }
    }

    /** Finds the FULL and PERFECT RULERS of a LENGTH with the fewest MARKS. */
    private static final class LeanSearch {
        private static final int LONGEST_LEAN = 24;

        private final Found found;
        private final long[][] kept = new long[LONGEST_LEAN + 1][];
        private int length;
        private int marks;

        LeanSearch(Found found) {
            this.found = found;
        }

        static boolean knows(int length) {
            return length >= 0 && length <= LONGEST_LEAN;
        }

        int fewestOf(int wanted) {
            long[] row = leanOf(wanted);
            return row.length > 0 ? Long.bitCount(row[0]) : NONE;
        }

        long[] leanOf(int wanted) {
            if (!knows(wanted)) {
                return new long[0];
            }
            if (kept[wanted] == null) {
                kept[wanted] = search(wanted);
            }
            return kept[wanted];
        }

        private long[] search(int wanted) {
            length = wanted;
            found.clear();
            if (length == 0) {
                found.note(1L);
            }
            for (int tried = 2; found.size == 0 && tried <= length + 1; tried++) {
                marks = tried;
                extend(1L | 1L << length, 0, marks - 2, 1L, 1L << length);
            }
            return found.row();
        }

        private void extend(long mask, int last, int left, long back, long measured) {
            int set = marks - left;
            int pairsToCome = (marks * (marks - 1) - set * (set - 1)) / 2;
            if (length - Long.bitCount(measured) > pairsToCome || left < 0) {
                return;
            }
            if (left == 0) {
                if (isOwnForm(mask, length)) {
                    found.note(mask);
                }
                return;
            }
            // The length LENGTH - 1 wants MARK 1 or MARK LENGTH - 1, and a RULER with the second alone is no FORM.
            int highest = last == 0 ? 1 : length - left;
            for (int y = last + 1; y <= highest; y++) {
                long more = back << (y - last);
                extend(mask | 1L << y, y, left - 1, more | 1L, measured | more | 1L << (length - y));
            }
        }
    }

    /** Finds the RINGS of a ROUND. */
    private static final class RingSearch {
        private static final int WIDEST = 40;
        private static final int MOST = 6;

        private final Found found;
        private final Forms forms;
        private final Ruler candidate = new Ruler();
        private final long[][] kept = new long[(WIDEST + 1) * (MOST + 1)][];
        private int round;

        RingSearch(Found found, Forms forms) {
            this.found = found;
            this.forms = forms;
        }

        static boolean knows(int round, int marks) {
            return round >= 2 && round <= WIDEST && marks >= 1 && marks <= MOST;
        }

        long[] ringsOf(int wanted, int marks) {
            if (!knows(wanted, marks)) {
                return new long[0];
            }
            int key = wanted * (MOST + 1) + marks;
            if (kept[key] == null) {
                round = wanted;
                found.clear();
                extend(1L, 0, marks - 1, 1L, 1L << round, 0L);
                kept[key] = found.row();
            }
            return kept[key];
        }

        /** The lengths that an a takes to less than the second MARK: a FORM measures none of them. */
        private long finerThan(int second) {
            long finer = 0;
            for (int d = 1; d < round; d++) {
                if (commonDivisor(d, round) < second) {
                    finer |= 1L << d;
                }
            }
            return finer;
        }

        /** "ahead" has a bit x for each MARK that is x ahead of the last one, going on from ROUND to 0. */
        private void extend(long mask, int last, int left, long back, long ahead, long barred) {
            if (left <= 0) {
                candidate.readMask(mask, round);
                if (forms.isOwnRingForm(candidate)) {
                    found.note(mask);
                }
                return;
            }
            for (int y = last + 1; y <= round - left; y++) {
                // A FORM's second MARK divides ROUND: an a takes it to its common divisor with ROUND.
                if (last == 0 && round % y != 0) {
                    continue;
                }
                long closed = last == 0 ? finerThan(y) : barred;
                long up = back << (y - last);
                long down = ahead >>> (y - last);
                if ((up & down) == 0 && ((up | down) & closed) == 0) {
                    extend(mask | 1L << y, y, left - 1, up | 1L, down | 1L << round, closed | up | down);
                }
            }
        }
    }

    /** Finds GANGS. */
    private static final class GangSearch {
        private static final int MOST_RULERS = 3;
        private static final int MOST = 4;
        private static final int FARTHEST = 40;

        private final SparseSearch sparse;
        private final long[][] kept = new long[(MOST_RULERS + 1) * (MOST + 1)][];
        private final long[] chosen = new long[MOST_RULERS];

        GangSearch(SparseSearch sparse) {
            this.sparse = sparse;
        }

        static boolean knows(int rulers, int marks) {
            boolean each = rulers >= 1 && rulers <= MOST_RULERS && marks >= 2 && marks <= MOST;
            return each && !(rulers == MOST_RULERS && marks == MOST);
        }

        long rulerOf(int rulers, int marks, int k) {
            long[] row = gangOf(rulers, marks);
            return k >= 0 && k < row.length ? row[k] : 1L;
        }

        int greatestOf(int rulers, int marks) {
            int greatest = 0;
            for (long mask : gangOf(rulers, marks)) {
                greatest = Math.max(greatest, lengthOf(mask));
            }
            return greatest;
        }

        private long[] gangOf(int rulers, int marks) {
            if (!knows(rulers, marks)) {
                return new long[0];
            }
            int key = rulers * (MOST + 1) + marks;
            // All lengths of all RULERS are unlike; the first LENGTH with room for them that has a GANG is the least.
            for (int length = rulers * marks * (marks - 1) / 2; kept[key] == null && length <= FARTHEST; length++) {
                if (chooses(sparse.upTo(marks, length), rulers, 0, 0, 0L)) {
                    kept[key] = Arrays.copyOf(chosen, rulers);
                }
            }
            return kept[key] == null ? new long[0] : kept[key];
        }

        /** Whether RULERS from a number on, with no length that is taken, fill what is left of a GANG. */
        private boolean chooses(long[] masks, int rulers, int number, int from, long taken) {
            if (number >= rulers || number >= chosen.length) {
                return true;
            }
            for (int i = from; i < masks.length; i++) {
                long own = measuredBy(masks[i]);
                chosen[number] = masks[i];
                if ((own & taken) == 0 && chooses(masks, rulers, number + 1, i + 1, taken | own)) {
                    return true;
                }
            }
            return false;
        }

        private static long measuredBy(long mask) {
            long measured = 0;
            for (int x = 0; x < 64; x++) {
                if ((mask >>> x & 1L) == 1L) {
                    measured |= mask >>> x;
                }
            }
            return measured & ~1L;
        }
    }

    /** Counts CASES. */
    private static final class CaseCount {
        private static final int MOST = 6;
        private static final int FARTHEST = 20;

        // 0 for what is not counted yet: there is always one CASE.
        private final int[] keptAll = new int[(MOST + 1) * (FARTHEST + 1)];
        private final int[] keptWhole = new int[(MOST + 1) * (FARTHEST + 1)];
        private int marks;
        private int limit;
        private int all;
        private int wholes;

        static boolean knows(int marks, int length) {
            return marks >= 2 && marks <= MOST && length >= 1 && length <= FARTHEST;
        }

        int inAll(int wanted, int length) {
            return knows(wanted, length) ? keptAll[counted(wanted, length)] : NONE;
        }

        int whole(int wanted, int length) {
            return knows(wanted, length) ? keptWhole[counted(wanted, length)] : NONE;
        }

        private int counted(int wanted, int length) {
            int key = wanted * (FARTHEST + 1) + length;
            if (keptAll[key] == 0) {
                marks = wanted;
                limit = length;
                all = 0;
                wholes = 0;
                visit(0, 1, 1L, 0L);
                keptAll[key] = all;
                keptWhole[key] = wholes;
            }
            return key;
        }

        /** A CASE without a length twice. */
        private void visit(int last, int set, long back, long measured) {
            all++;
            if (set >= marks) {
                wholes++;
                return;
            }
            if (last + leastSum(marks - set, measured) > limit) {
                return;
            }
            for (int y = last + 1; y <= limit; y++) {
                long more = back << (y - last);
                if ((more & measured) == 0) {
                    visit(y, set + 1, more | 1L, measured | more);
                } else {
                    all++;
                }
            }
        }

        private static int leastSum(int wanted, long measured) {
            int left = wanted;
            int sum = 0;
            for (int d = 1; d < 64 && left > 0; d++) {
                if ((measured >>> d & 1L) == 0) {
                    sum += d;
                    left--;
                }
            }
            return sum;
        }
    }

    /** Powers of a t that are a whole field but 0: rows of rests by p, in place i what there is of t's power i. */
    private static final class Field {
        private static final int CUBIC = 3;
        private static final int SQUARE = 2;

        private final int[] rule = new int[CUBIC];
        private final int[] power = new int[CUBIC];
        // The number of the first rule for a degree and a p; 0, the rule of 0s alone, for one not sought yet.
        private final int[] kept = new int[(CUBIC + 1) * (LARGEST_PRIME + 1)];

        void writeLines(int p, Ruler to) {
            write(p, CUBIC, 0, p * p + p + 1, to);
        }

        void writePowers(int p, Ruler to) {
            write(p, SQUARE, 1, p * p - 1, to);
        }

        private void write(int p, int degree, int wanted, int round, Ruler to) {
            if (p < 2 || p > LARGEST_PRIME) {
                return;
            }
            int key = degree * (LARGEST_PRIME + 1) + p;
            if (kept[key] == 0) {
                kept[key] = firstRule(p, degree);
            }
            readRule(kept[key], p, degree);
            to.begin(round);
            int least = NONE;
            beginPowers();
            for (int i = 0; i < round; i++) {
                if (power[degree - 1] == wanted) {
                    least = least == NONE ? i : least;
                    to.insert(i - least);
                }
                nextPower(p, degree);
            }
        }

        private int firstRule(int p, int degree) {
            int rows = degree == CUBIC ? p * p * p : p * p;
            for (int number = 1; number < rows; number++) {
                readRule(number, p, degree);
                if (isWhole(p, degree, rows - 1)) {
                    return number;
                }
            }
            return 0;
        }

        /** Rules are numbered as they are asked: what goes with the highest power leads. */
        private void readRule(int number, int p, int degree) {
            int rest = number;
            for (int i = 0; i < degree && p > 0; i++) {
                rule[i] = rest % p;
                rest /= p;
            }
        }

        /** Whether t's powers come back to 1 after all the rows but that of 0s, and not before. */
        private boolean isWhole(int p, int degree, int rows) {
            if (rule[0] == 0) {
                return false;
            }
            beginPowers();
            for (int i = 1; i <= rows; i++) {
                nextPower(p, degree);
                if (isOne(degree)) {
                    return i == rows;
                }
            }
            return false;
        }

        private void beginPowers() {
            Arrays.fill(power, 0);
            power[0] = 1;
        }

        private boolean isOne(int degree) {
            for (int i = 1; i < degree; i++) {
                if (power[i] != 0) {
                    return false;
                }
            }
            return power[0] == 1;
        }

        private void nextPower(int p, int degree) {
            if (p < 2 || degree < 1 || degree > power.length) {
                return;
            }
            int top = power[degree - 1];
            for (int i = degree - 1; i > 0; i--) {
                power[i] = (power[i - 1] + top * rule[i]) % p;
            }
            power[0] = top * rule[0] % p;
        }
    }
}
