/** Each promise of the document by itself: ordinary inputs, the edges that it names, and wrong inputs. */
public final class PromiseTest {
    private static final int LOWEST = Integer.MIN_VALUE;
    private static final int HIGHEST = Integer.MAX_VALUE;
    private static int wrong = 0;
    private static int promise = 0;

    private static void due(String what, Object got, Object want) {
        if (!got.equals(want)) {
            wrong++;
            System.out.println("promise " + promise + ": " + what + ": " + got + ", due is " + want);
        }
    }

    /** An answer with the STATUS that goes with it. */
    private static void due(String what, RulerBench x, long got, long want, int status) {
        due(what, got, want);
        due(what + ", STATUS", x.status(), status);
    }

    private static void due(String what, RulerBench x, boolean got, boolean want, int status) {
        due(what, got, want);
        due(what + ", STATUS", x.status(), status);
    }

    private static void refused(String what, RulerBench x, long got, int status) {
        due(what, x, got, -1L, status);
    }

    private static void refused(String what, RulerBench x, boolean got, int status) {
        due(what, x, got, false, status);
    }

    /** What is on a SHELF, written out: its MARKS, and the ROUND of a RING; "-" for nothing. */
    private static String shown(RulerBench x, int shelf) {
        int many = x.tell(shelf, 1);
        if (many == -1) {
            return "-";
        }
        StringBuilder text = new StringBuilder();
        for (int i = 0; i < many; i++) {
            text.append(i == 0 ? "" : " ").append(x.mark(shelf, i));
        }
        int round = x.tell(shelf, 3);
        return round == 0 ? text.toString() : text + " / " + round;
    }

    /** Sets a RULER on a SHELF by way of STICK 5. */
    private static int set(RulerBench x, int shelf, int... numbers) {
        x.stick(5, 2, numbers.length);
        for (int i = 0; i < numbers.length; i++) {
            x.put(5, i, numbers[i]);
        }
        return x.ruler(shelf, 5, numbers.length);
    }

    private static RulerBench with(int shelf, int... numbers) {
        RulerBench x = new RulerBench();
        set(x, shelf, numbers);
        return x;
    }

    private static RulerBench withRing(int shelf, int round, int... numbers) {
        RulerBench x = with(shelf, numbers);
        x.ring(shelf, round);
        return x;
    }

    private static int[] upTo(int many) {
        int[] row = new int[many];
        for (int i = 0; i < many; i++) {
            row[i] = i;
        }
        return row;
    }

    private static void p1to2NewAndStatus() {
        promise = 1;
        RulerBench x = new RulerBench();
        due("STATUS at first", x.status(), 0);
        for (int i = 0; i < 6; i++) {
            refused("number of STICK " + i, x, x.number(i, 0), 3);
        }
        for (int i = 0; i < 16; i++) {
            refused("tell of SHELF " + i, x, x.tell(i, 0), 4);
        }
        RulerBench y = new RulerBench();
        x.stick(0, 1, 1);
        refused("objects share nothing", y, y.number(0, 0), 3);
        promise = 2;
        due("status is the latest call's", y.status(), 3);
        due("status leaves it", y.status(), 3);
        y.stick(0, 0, 1);
        due("status of a call that holds", y.status(), 0);
        y.fail();
        y.shortest(0);
        due("status of the latest", y.status(), 5);
    }

    private static void p3to4StickAndDrop() {
        promise = 3;
        RulerBench x = new RulerBench();
        refused("no STICK -1", x, x.stick(-1, 0, 1), 1);
        refused("no STICK 6", x, x.stick(6, 9, -4), 1);
        refused("no STICK", x, x.stick(LOWEST, 0, 1), 1);
        refused("kind -1", x, x.stick(0, -1, 1), 5);
        refused("kind 3", x, x.stick(0, 3, 1), 5);
        refused("many -1", x, x.stick(0, 0, -1), 5);
        refused("many 25", x, x.stick(0, 0, 25), 5);
        refused("still MISSING", x, x.drop(0), 3);
        due("24", x, x.stick(5, 2, 24), true, 0);
        for (int i = 0; i < 24; i++) {
            due("a 0", x, x.number(5, i), 0L, 0);
        }
        due("0 numbers", x, x.stick(0, 0, 0), true, 0);
        refused("no place", x, x.number(0, 0), 6);
        x.put(5, 3, 77);
        refused("a wrong one changes nothing", x, x.stick(5, 2, 25), 5);
        due("it stays", x, x.number(5, 3), 77L, 0);
        due("made anew", x, x.stick(5, 0, 4), true, 0);
        due("0 again", x, x.number(5, 3), 0L, 0);
        refused("shorter", x, x.number(5, 4), 6);
        promise = 4;
        refused("no STICK", x, x.drop(6), 1);
        refused("no STICK", x, x.drop(-1), 1);
        due("drop", x, x.drop(5), true, 0);
        refused("MISSING", x, x.number(5, 0), 3);
        refused("twice", x, x.drop(5), 3);
        due("an empty one", x, x.drop(0), true, 0);
    }

    private static void p5to8Numbers() {
        promise = 5;
        RulerBench x = new RulerBench();
        refused("no STICK", x, x.put(6, 0, 1), 1);
        refused("MISSING", x, x.put(1, 99, 1), 3);
        long[] given = {127, 128, 255, 256, -128, -129, 2147483647L, 2147483648L, 4294967295L, -2147483649L,
            Long.MAX_VALUE, Long.MIN_VALUE};
        long[] small = {127, -128, -1, 0, -128, 127, -1, 0, -1, -1, -1, 0};
        long[] middle = {127, 128, 255, 256, -128, -129, 2147483647L, -2147483648L, -1, 2147483647L, -1, 0};
        for (int kind = 0; kind < 3; kind++) {
            x.stick(kind, kind, given.length);
            for (int i = 0; i < given.length; i++) {
                due("put", x, x.put(kind, i, given[i]), true, 0);
                long want = kind == 0 ? small[i] : kind == 1 ? middle[i] : given[i];
                due("kind " + kind + " of " + given[i], x, x.number(kind, i), want, 0);
            }
        }
        refused("place -1", x, x.put(0, -1, 5), 6);
        refused("place behind", x, x.put(0, given.length, 5), 6);
        refused("place far", x, x.put(0, HIGHEST, 5), 6);
        promise = 6;
        refused("no STICK", x, x.number(-1, 0), 1);
        refused("MISSING", x, x.number(4, -1), 3);
        refused("place -1", x, x.number(0, -1), 6);
        refused("place behind", x, x.number(0, given.length), 6);
        due("-1 itself", x, x.number(0, 2), -1L, 0);
        promise = 7;
        refused("no STICK", x, x.cut(9, -1), 1);
        refused("MISSING", x, x.cut(4, -1), 3);
        refused("below 0", x, x.cut(1, -1), 5);
        refused("too many", x, x.cut(1, given.length + 1), 6);
        due("all", x, x.cut(1, given.length), true, 0);
        due("three", x, x.cut(1, 3), true, 0);
        due("the last", x, x.number(1, 2), 255L, 0);
        refused("the next", x, x.number(1, 3), 6);
        refused("not back", x, x.cut(1, 4), 6);
        due("none", x, x.cut(1, 0), true, 0);
        refused("none there", x, x.put(1, 0, 1), 6);
        promise = 8;
        refused("fail", x, x.fail(), 10);
        due("fail changes nothing", x, x.number(2, 10), Long.MAX_VALUE, 0);
    }

    private static void p9Ruler() {
        promise = 9;
        RulerBench x = new RulerBench();
        refused("STICK before SHELF", x, x.ruler(16, 6, 0), 1);
        refused("SHELF before MISSING", x, x.ruler(16, 0, 0), 2);
        refused("SHELF -1", x, x.ruler(-1, 0, 0), 2);
        refused("MISSING before many", x, x.ruler(0, 0, 0), 3);
        x.stick(0, 2, 3);
        refused("none", x, x.ruler(0, 0, 0), 5);
        refused("below none", x, x.ruler(0, 0, -1), 5);
        refused("more than it has", x, x.ruler(0, 0, 4), 6);
        refused("no rise", x, x.ruler(0, 0, 3), 7);
        due("one MARK", x, x.ruler(0, 0, 1), 4L, 0);
        refused("falling", x, set(x, 1, 3, 2), 7);
        due("as far as may be", x, set(x, 1, -500, 500), 3L, 0);
        refused("one further", x, set(x, 1, -500, 501), 7);
        due("nothing changed", shown(x, 1), "0 1000");
        x.put(0, 0, Long.MIN_VALUE);
        x.put(0, 1, Long.MAX_VALUE);
        refused("as far as 64 bits go", x, x.ruler(0, 0, 2), 7);
        x.put(0, 1, Long.MIN_VALUE + 7);
        due("from the least number", x, x.ruler(2, 0, 2), 3L, 0);
        due("from the least number", shown(x, 2), "0 7");
        due("PERFECT", x, set(x, 2, 10, 11, 14, 16), 4L, 0);
        due("each less the first", shown(x, 2), "0 1 4 6");
        due("SPARSE", x, set(x, 2, 0, 1, 5), 3L, 0);
        due("FULL", x, set(x, 2, 0, 1, 2), 2L, 0);
        due("else", x, set(x, 2, 0, 2, 4), 1L, 0);
        due("24 MARKS", x, set(x, 2, upTo(24)), 2L, 0);
        RulerBench y = withRing(3, 9, 0, 1);
        due("instead of a RING", y, set(y, 3, 0, 1, 3), 4L, 0);
        due("no RING now", shown(y, 3), "0 1 3");
    }

    private static void p10Ring() {
        promise = 10;
        RulerBench x = with(0, 0, 1, 3);
        refused("no SHELF", x, x.ring(16, 1), 2);
        refused("nothing", x, x.ring(1, 1), 4);
        refused("not above LENGTH", x, x.ring(0, 3), 5);
        refused("above 400", x, x.ring(0, 401), 5);
        refused("below 2", x, x.ring(0, LOWEST), 5);
        refused("3 both ways", x, x.ring(0, 6), 8);
        refused("1 and 1", x, x.ring(0, 4), 8);
        refused("2 and 2", x, x.ring(0, 5), 8);
        due("still a RULER", shown(x, 0), "0 1 3");
        due("7", x, x.ring(0, 7), true, 0);
        due("7", shown(x, 0), "0 1 3 / 7");
        due("400", x, x.ring(0, 400), true, 0);
        due("of a RING", shown(x, 0), "0 1 3 / 400");
        refused("of a RING, twice", x, x.ring(0, 6), 8);
        due("as it was", shown(x, 0), "0 1 3 / 400");
        set(x, 1, 5);
        refused("round 1", x, x.ring(1, 1), 5);
        due("a MARK alone", x, x.ring(1, 2), true, 0);
        set(x, 2, 0, 1);
        refused("1 both ways", x, x.ring(2, 2), 8);
        set(x, 3, 0, 2, 4);
        refused("a length twice at once", x, x.ring(3, 300), 8);
        set(x, 4, 0, 400);
        refused("LENGTH 400", x, x.ring(4, 400), 5);
    }

    private static void p11to12TellAndMark() {
        promise = 11;
        RulerBench x = withRing(2, 21, 0, 1, 4, 14, 16);
        refused("no SHELF", x, x.tell(-1, 9), 2);
        refused("nothing", x, x.tell(0, 9), 4);
        refused("what -1", x, x.tell(2, -1), 5);
        refused("what 4", x, x.tell(2, 4), 5);
        due("KIND", x, x.tell(2, 0), 5L, 0);
        due("MARKS", x, x.tell(2, 1), 5L, 0);
        due("LENGTH", x, x.tell(2, 2), 16L, 0);
        due("ROUND", x, x.tell(2, 3), 21L, 0);
        set(x, 15, 0, 1, 5, 9);
        due("KIND", x, x.tell(15, 0), 1L, 0);
        due("MARKS", x, x.tell(15, 1), 4L, 0);
        due("LENGTH", x, x.tell(15, 2), 9L, 0);
        due("ROUND of no RING", x, x.tell(15, 3), 0L, 0);
        promise = 12;
        refused("no SHELF", x, x.mark(16, -1), 2);
        refused("nothing", x, x.mark(1, -1), 4);
        refused("MARK -1", x, x.mark(2, -1), 5);
        refused("MARK 5 of 5", x, x.mark(2, 5), 5);
        refused("MARK far", x, x.mark(2, HIGHEST), 5);
        due("MARK 0", x, x.mark(2, 0), 0L, 0);
        due("MARK 4", x, x.mark(2, 4), 16L, 0);
    }

    private static void p13to15Lengths() {
        promise = 13;
        RulerBench x = with(0, 0, 2, 4, 6, 9);
        refused("no SHELF", x, x.measures(16, 0), 2);
        refused("nothing", x, x.measures(1, 0), 4);
        refused("0", x, x.measures(0, 0), 5);
        refused("below 0", x, x.measures(0, LOWEST), 5);
        int[] times = {0, 3, 1, 2, 1, 1, 1, 0, 1, 0};
        for (int d = 1; d <= times.length; d++) {
            due("times " + d, x, x.measures(0, d), (long) times[d - 1], 0);
        }
        due("far", x, x.measures(0, HIGHEST), 0L, 0);
        set(x, 1, 0, 1000);
        due("1,000", x, x.measures(1, 1000), 1L, 0);
        due("1,001", x, x.measures(1, 1001), 0L, 0);
        set(x, 2, 0, 1, 4);
        x.ring(2, 9);
        int[] round = {1, 0, 1, 1, 1, 1, 0, 1, 0, 0};
        for (int d = 1; d <= round.length; d++) {
            due("round times " + d, x, x.measures(2, d), (long) round[d - 1], 0);
        }
        set(x, 6, 0);
        x.ring(6, 5);
        due("a MARK alone", x, x.measures(6, 5), 0L, 0);
        promise = 14;
        refused("no SHELF", x, x.lacks(-1), 2);
        refused("nothing", x, x.lacks(3), 4);
        due("1 is lacking", x, x.lacks(0), 1L, 0);
        due("a RING lacks 2", x, x.lacks(2), 2L, 0);
        due("PERFECT", x, set(x, 3, 0, 1, 4, 6), 4L, 0);
        due("nothing is lacking", x, x.lacks(3), 0L, 0);
        x.ring(3, 13);
        due("above LENGTH too, of a whole RING", x, x.lacks(3), 0L, 0);
        x.ring(3, 15);
        due("above LENGTH, of a RING", x, x.lacks(3), 7L, 0);
        set(x, 4, 0, 1, 3);
        x.ring(4, 8);
        due("a RING beyond LENGTH", x, x.lacks(4), 4L, 0);
        x.ring(4, 7);
        due("a whole RING", x, x.lacks(4), 0L, 0);
        set(x, 4, 9);
        due("a MARK alone", x, x.lacks(4), 0L, 0);
        x.ring(4, 2);
        due("a RING of a MARK", x, x.lacks(4), 1L, 0);
        promise = 15;
        refused("no SHELF", x, x.twice(16), 2);
        refused("nothing", x, x.twice(5), 4);
        due("2 three times", x, x.twice(0), 2L, 0);
        due("a RING", x, x.twice(2), 0L, 0);
        due("one MARK", x, x.twice(4), 0L, 0);
        set(x, 5, 0, 500, 1000);
        due("500", x, x.twice(5), 500L, 0);
        set(x, 5, 0, 1, 5, 9);
        due("4", x, x.twice(5), 4L, 0);
    }

    private static void p16to17AddAndTake() {
        promise = 16;
        RulerBench x = with(0, 0, 1, 3);
        refused("no SHELF", x, x.add(16, 0), 2);
        refused("nothing", x, x.add(1, 0), 4);
        refused("0", x, x.add(0, 0), 5);
        refused("below 0", x, x.add(0, -3), 5);
        refused("1,001", x, x.add(0, 1001), 5);
        refused("there already", x, x.add(0, 3), 9);
        due("between", x, x.add(0, 2), 2L, 0);
        due("at the end", x, x.add(0, 1000), 1L, 0);
        due("in order", shown(x, 0), "0 1 2 3 1000");
        set(x, 1, 0, 1);
        due("PERFECT", x, x.add(1, 3), 4L, 0);
        due("SPARSE", x, x.add(1, 7), 3L, 0);
        set(x, 2, upTo(23));
        due("the 24th", x, x.add(2, 500), 1L, 0);
        refused("one too many", x, x.add(2, 501), 9);
        due("still 24", x, x.tell(2, 1), 24L, 0);
        set(x, 3, 0, 1);
        x.ring(3, 7);
        refused("5 before 8", x, x.add(3, 0), 5);
        refused("a RING, before 9", x, x.add(3, 1), 8);
        promise = 17;
        refused("no SHELF", x, x.take(-1, 0), 2);
        refused("nothing", x, x.take(4, 0), 4);
        refused("a RING", x, x.take(3, 99), 8);
        refused("not there", x, x.take(0, 4), 9);
        refused("below 0", x, x.take(0, -1), 9);
        due("the last", x, x.take(0, 1000), 2L, 0);
        due("between", x, x.take(0, 2), 4L, 0);
        due("1 of three", shown(x, 0), "0 1 3");
        due("the first", x, x.take(0, 0), 3L, 0);
        due("begins at 0", shown(x, 0), "0 2");
        due("the second to last", x, x.take(0, 0), 4L, 0);
        refused("alone", x, x.take(0, 0), 9);
        due("alone it stays", shown(x, 0), "0");
    }

    private static void p18Grow() {
        promise = 18;
        RulerBench x = with(0, 4);
        refused("no SHELF", x, x.grow(16), 2);
        refused("nothing", x, x.grow(1), 4);
        int[] greedy = {1, 3, 7, 12, 20, 30, 44, 65, 80, 96, 122, 147, 181, 203, 251, 289, 360, 400, 474, 564,
            592, 661, 774};
        for (int y : greedy) {
            due("the greedy one", x, x.grow(0), (long) y, 0);
        }
        refused("24 MARKS", x, x.grow(0), 9);
        due("24 MARKS stay", x, x.tell(0, 1), 24L, 0);
        set(x, 1, 0, 1);
        x.ring(1, 9);
        refused("a RING", x, x.grow(1), 8);
        set(x, 2, 0, 1, 2);
        refused("a length twice", x, x.grow(2), 8);
        set(x, 2, upTo(24));
        refused("8 before 9", x, x.grow(2), 8);
        set(x, 3, 0, 1, 1000);
        refused("above 1,000", x, x.grow(3), 7);
        due("as it was", shown(x, 3), "0 1 1000");
        set(x, 3, 0, 1, 997);
        due("below 1,000", x, x.grow(3), 999L, 0);
        refused("no more", x, x.grow(3), 7);
        set(x, 3, 0, 999);
        due("just 1,000", x, x.grow(3), 1000L, 0);
        // 24 MARKS up to 1,000 without a length twice: 9 is asked before 7.
        x.lines(19, 4);
        x.open(4, 0, 400, 4);
        due("21st", x, x.grow(4), 381L, 0);
        due("22nd", x, x.grow(4), 592L, 0);
        due("23rd", x, x.grow(4), 695L, 0);
        due("24th", x, x.add(4, 1000), 3L, 0);
        refused("24 MARKS to 1,000", x, x.grow(4), 9);
    }

    private static void p19to20TurnAndForm() {
        promise = 19;
        RulerBench x = with(0, 0, 1, 4, 9);
        refused("no SHELF", x, x.turn(16, 0), 2);
        refused("no SHELF to come to, before 4", x, x.turn(1, -1), 2);
        refused("nothing", x, x.turn(1, 0), 4);
        due("to another", x, x.turn(0, 1), true, 0);
        due("turned", shown(x, 1), "0 5 8 9");
        due("the one it comes from", shown(x, 0), "0 1 4 9");
        due("to itself", x, x.turn(1, 1), true, 0);
        due("back", shown(x, 1), "0 1 4 9");
        set(x, 2, 0, 1, 3);
        x.ring(2, 7);
        x.turn(2, 3);
        due("a RING", shown(x, 3), "0 4 6 / 7");
        x.turn(3, 3);
        due("a RING back", shown(x, 3), "0 1 3 / 7");
        x.turn(0, 2);
        due("a RULER instead of a RING", shown(x, 2), "0 5 8 9");
        set(x, 4, 8);
        x.turn(4, 5);
        due("a MARK alone", shown(x, 5), "0");
        promise = 20;
        refused("no SHELF", x, x.form(-1, 0), 2);
        refused("no SHELF to come to, before 4", x, x.form(15, 16), 2);
        refused("nothing", x, x.form(15, 0), 4);
        due("as it was", x, x.form(0, 6), 1L, 0);
        due("as it was", shown(x, 6), "0 1 4 9");
        due("turned", x, x.form(2, 2), 0L, 0);
        due("turned", shown(x, 2), "0 1 4 9");
        set(x, 7, 0, 3, 6);
        due("the same both ways", x, x.form(7, 7), 1L, 0);
        set(x, 8, 0, 5, 11);
        x.ring(8, 13);
        due("a RING", x, x.form(8, 9), 0L, 0);
        due("a RING moved and multiplied", shown(x, 9), "0 1 4 / 13");
        due("a RING's FORM", x, x.form(9, 9), 1L, 0);
        set(x, 10, 0, 2);
        x.ring(10, 12);
        due("2 and 12 have a divisor", x, x.form(10, 10), 1L, 0);
        set(x, 10, 0, 8);
        x.ring(10, 12);
        due("8 goes to 4", x, x.form(10, 10), 0L, 0);
        due("8 goes to 4", shown(x, 10), "0 4 / 12");
        x.lines(19, 12);
        due("a great RING", x, x.form(12, 13), 0L, 0);
        due("a great RING", shown(x, 13),
            "0 1 3 12 17 65 75 94 117 124 132 145 163 167 200 271 297 303 337 357 / 381");
    }

    private static void p21Alike() {
        promise = 21;
        RulerBench x = with(0, 0, 1, 4, 9);
        refused("no SHELF", x, x.alike(0, 16), 2);
        refused("no SHELF, before 4", x, x.alike(-1, 1), 2);
        refused("nothing", x, x.alike(0, 1), 4);
        refused("nothing", x, x.alike(1, 0), 4);
        x.turn(0, 1);
        due("turned", x, x.alike(0, 1), 1L, 0);
        due("itself", x, x.alike(1, 1), 1L, 0);
        set(x, 2, 0, 1, 5, 9);
        due("another", x, x.alike(0, 2), 0L, 0);
        set(x, 2, 0, 1, 4);
        due("unlike many", x, x.alike(0, 2), 0L, 0);
        set(x, 3, 0, 1, 4);
        x.ring(3, 9);
        due("a RING and none", x, x.alike(2, 3), 0L, 0);
        due("none and a RING", x, x.alike(3, 2), 0L, 0);
        set(x, 4, 0, 1, 4);
        x.ring(4, 10);
        due("unlike ROUNDS", x, x.alike(3, 4), 0L, 0);
        x.factor(3, 2, 5);
        due("multiplied", x, x.alike(3, 5), 1L, 0);
        x.turn(5, 5);
        due("and turned", x, x.alike(5, 3), 1L, 0);
        set(x, 6, 0, 3, 8);
        x.ring(6, 9);
        due("moved", x, x.alike(6, 3), 1L, 0);
        due("as they were", shown(x, 6) + ", " + shown(x, 3), "0 3 8 / 9, 0 1 4 / 9");
        set(x, 7, 0, 1);
        x.ring(7, 12);
        set(x, 8, 0, 2);
        x.ring(8, 12);
        due("1 and 2 of 12", x, x.alike(7, 8), 0L, 0);
    }

    private static void p22to23FactorAndOpen() {
        promise = 22;
        RulerBench x = withRing(0, 21, 0, 1, 4, 14, 16);
        refused("no SHELF", x, x.factor(0, 0, 16), 2);
        refused("no SHELF", x, x.factor(-1, 0, 0), 2);
        refused("nothing", x, x.factor(1, 0, 0), 4);
        refused("k 0", x, x.factor(0, 0, 1), 5);
        refused("k 401", x, x.factor(0, 401, 1), 5);
        refused("a common divisor", x, x.factor(0, 3, 1), 8);
        refused("ROUND itself", x, x.factor(0, 21, 1), 8);
        set(x, 2, 0, 1);
        refused("5 before 8", x, x.factor(2, 401, 1), 5);
        refused("no RING", x, x.factor(2, 2, 1), 8);
        due("nothing came", shown(x, 1), "-");
        due("2", x, x.factor(0, 2, 1), true, 0);
        due("2", shown(x, 1), "0 2 7 8 11 / 21");
        due("above ROUND", x, x.factor(0, 400, 0), true, 0);
        due("above ROUND, to itself", shown(x, 0), "0 1 4 14 16 / 21");
        due("20", x, x.factor(0, 20, 0), true, 0);
        due("20", shown(x, 0), "0 5 7 17 20 / 21");
        promise = 23;
        x = withRing(0, 21, 0, 1, 4, 14, 16);
        refused("no SHELF", x, x.open(16, -1, -1, 0), 2);
        refused("no SHELF to come to", x, x.open(0, -1, -1, 16), 2);
        refused("nothing", x, x.open(1, -1, -1, 0), 4);
        refused("MARK -1", x, x.open(0, -1, 9, 1), 5);
        refused("MARK 5", x, x.open(0, 5, 9, 1), 5);
        refused("place -1", x, x.open(0, 0, -1, 1), 5);
        set(x, 2, 0, 1);
        refused("5 before 8", x, x.open(2, 2, 9, 1), 5);
        refused("no RING", x, x.open(2, 0, 9, 1), 8);
        due("nothing came", shown(x, 1), "-");
        due("whole", x, x.open(0, 3, HIGHEST, 1), 3L, 0);
        due("whole", shown(x, 1), "0 2 7 8 11");
        due("left out above 8", x, x.open(0, 3, 8, 1), 3L, 0);
        due("8 itself is in", shown(x, 1), "0 2 7 8");
        due("left out above 7", x, x.open(0, 3, 7, 1), 3L, 0);
        due("8 is out", shown(x, 1), "0 2 7");
        due("at 0 to itself", x, x.open(0, 0, 1, 0), 4L, 0);
        due("PERFECT, no RING", shown(x, 0), "0 1");
        x = withRing(0, 21, 0, 1, 4, 14, 16);
        due("place 0", x, x.open(0, 4, 0, 3), 4L, 0);
        due("place 0", shown(x, 3), "0");
    }

    private static void p24to26Best() {
        int[] length = {0, 1, 3, 6, 11, 17, 25};
        int[] many = {1, 1, 1, 1, 2, 4, 5};
        RulerBench x = new RulerBench();
        for (int m = 1; m <= 7; m++) {
            promise = 24;
            due("of " + m, x, x.shortest(m), (long) length[m - 1], 0);
            promise = 25;
            due("of " + m, x, x.many(m), (long) many[m - 1], 0);
        }
        for (int m : new int[] {0, 8, -1, LOWEST, HIGHEST}) {
            promise = 24;
            refused("of " + m, x, x.shortest(m), 5);
            promise = 25;
            refused("of " + m, x, x.many(m), 5);
            promise = 26;
            refused("of " + m, x, x.best(m, 0, 0), 5);
            refused("SHELF before " + m, x, x.best(m, 0, 16), 2);
        }
        refused("SHELF -1", x, x.best(3, 9, -1), 2);
        refused("5 before 9", x, x.best(8, -1, 0), 5);
        refused("number -1", x, x.best(7, -1, 0), 9);
        refused("number 5", x, x.best(7, 5, 0), 9);
        due("nothing came", shown(x, 0), "-");
        String[] seven = {"0 1 4 10 18 23 25", "0 1 7 11 20 23 25", "0 1 11 16 19 23 25", "0 2 3 10 16 21 25",
            "0 2 7 13 21 22 25"};
        for (int i = 0; i < 5; i++) {
            due("BEST " + i, x, x.best(7, i, i), true, 0);
            due("BEST " + i, shown(x, i), seven[i]);
        }
        x.ring(0, 99);
        x.best(1, 0, 0);
        due("BEST of 1, instead of a RING", shown(x, 0), "0");
        x.best(6, 3, 15);
        due("BEST of 6", shown(x, 15), "0 1 8 12 14 17");
    }

    private static void p27to28Lean() {
        int[] marks = {1, 2, 3, 3, 4, 4, 4, 5, 5, 5, 6, 6, 6, 6, 7, 7, 7, 7, 8, 8, 8, 8, 8, 8, 9};
        int[] many = {1, 1, 1, 1, 2, 2, 1, 6, 4, 2, 19, 15, 7, 3, 65, 40, 16, 6, 250, 163, 75, 33, 9, 2, 472};
        RulerBench x = new RulerBench();
        for (int n = 0; n <= 24; n++) {
            promise = 27;
            due("of " + n, x, x.fewest(n), (long) marks[n], 0);
            promise = 28;
            due("of " + n, x, x.lean(n, many[n] - 1, 0), (long) many[n], 0);
            due("KIND", x.tell(0, 0) == 2 || x.tell(0, 0) == 4, true);
            due("LENGTH", x, x.tell(0, 2), (long) n, 0);
            due("MARKS", x, x.tell(0, 1), (long) marks[n], 0);
            refused("one more", x, x.lean(n, many[n], 0), 9);
            refused("-1", x, x.lean(n, -1, 0), 9);
        }
        for (int n : new int[] {-1, 25, LOWEST, HIGHEST}) {
            promise = 27;
            refused("of " + n, x, x.fewest(n), 5);
            promise = 28;
            refused("of " + n, x, x.lean(n, -1, 0), 5);
            refused("SHELF before " + n, x, x.lean(n, -1, 16), 2);
        }
        x.lean(2, 0, 1);
        due("LEAN of 2", shown(x, 1), "0 1 2");
        x.lean(0, 0, 1);
        due("LEAN of 0", shown(x, 1), "0");
        x.lean(4, 0, 1);
        due("LEAN of 4", shown(x, 1), "0 1 2 4");
        x.lean(4, 1, 1);
        due("LEAN of 4", shown(x, 1), "0 1 3 4");
        x.lean(23, 0, 1);
        due("LEAN of 23", shown(x, 1), "0 1 2 11 15 18 21 23");
        x.lean(23, 1, 1);
        due("LEAN of 23", shown(x, 1), "0 1 4 10 16 18 21 23");
    }

    private static void p29Rings() {
        promise = 29;
        RulerBench x = new RulerBench();
        refused("SHELF first", x, x.rings(1, 0, 0, 16), 2);
        refused("ROUND 1", x, x.rings(1, 1, 0, 0), 5);
        refused("ROUND 41", x, x.rings(41, 1, 0, 0), 5);
        refused("0 MARKS", x, x.rings(9, 0, 0, 0), 5);
        refused("7 MARKS, before 9", x, x.rings(9, 7, -1, 0), 5);
        refused("none at all", x, x.rings(2, 2, 0, 0), 9);
        refused("none at all", x, x.rings(30, 6, 0, 0), 9);
        refused("-1", x, x.rings(13, 4, -1, 0), 9);
        refused("one more", x, x.rings(13, 4, 1, 0), 9);
        due("nothing came", shown(x, 0), "-");
        due("a whole one", x, x.rings(13, 4, 0, 0), 1L, 0);
        due("a whole one", shown(x, 0), "0 1 3 9 / 13");
        due("a MARK alone", x, x.rings(2, 1, 0, 0), 1L, 0);
        due("a MARK alone", shown(x, 0), "0 / 2");
        String[] two = {"0 1 / 12", "0 2 / 12", "0 3 / 12", "0 4 / 12"};
        for (int i = 0; i < 4; i++) {
            due("two of 12", x, x.rings(12, 2, i, 0), 4L, 0);
            due("two of 12", shown(x, 0), two[i]);
        }
        String[] three = {"0 1 3 / 12", "0 1 4 / 12", "0 1 5 / 12"};
        for (int i = 0; i < 3; i++) {
            due("three of 12", x, x.rings(12, 3, i, 0), 3L, 0);
            due("three of 12", shown(x, 0), three[i]);
        }
        due("six of 40", x, x.rings(40, 6, 24, 15), 25L, 0);
        due("six of 40", shown(x, 15), "0 1 4 6 18 33 / 40");
        due("six of 31", x, x.rings(31, 6, 0, 15), 1L, 0);
        due("six of 31", shown(x, 15), "0 1 3 8 12 18 / 31");
    }

    private static void p30Cases() {
        promise = 30;
        RulerBench x = new RulerBench();
        due("2 and 1", x, x.cases(2, 1, 0), 2L, 0);
        due("2 and 1", x, x.cases(2, 1, 1), 1L, 0);
        due("closed at once", x, x.cases(3, 2, 0), 1L, 0);
        due("closed at once", x, x.cases(3, 2, 1), 0L, 0);
        // 0, 0 1, 0 2 and 0 3 (0 2 goes on to 0 2 3, 0 1 to 0 1 2 with 1 twice and to 0 1 3; 0 3 is closed).
        due("3 and 3", x, x.cases(3, 3, 0), 7L, 0);
        due("3 and 3", x, x.cases(3, 3, 1), 2L, 0);
        due("4 and 6", x, x.cases(4, 6, 0), 25L, 0);
        due("4 and 6", x, x.cases(4, 6, 1), 2L, 0);
        due("6 and 16", x, x.cases(6, 16, 0), 642L, 0);
        due("6 and 16", x, x.cases(6, 16, 1), 0L, 0);
        due("6 and 17", x, x.cases(6, 17, 1), 8L, 0);
        due("6 and 20", x, x.cases(6, 20, 0), 4816L, 0);
        due("6 and 20", x, x.cases(6, 20, 1), 126L, 0);
        refused("1 MARK", x, x.cases(1, 9, 0), 5);
        refused("7 MARKS", x, x.cases(7, 9, 0), 5);
        refused("LENGTH 0", x, x.cases(3, 0, 0), 5);
        refused("LENGTH 21", x, x.cases(3, 21, 0), 5);
        refused("what -1", x, x.cases(3, 9, -1), 5);
        refused("what 2", x, x.cases(3, 9, 2), 5);
    }

    private static void p31to32ApartAndGang() {
        promise = 31;
        RulerBench x = with(0, 0, 1, 4);
        set(x, 1, 0, 2, 7);
        set(x, 2, 0, 1, 10);
        set(x, 3, 0, 6, 12);
        set(x, 4, 0);
        set(x, 15, 0, 20);
        set(x, 5, 0, 1);
        x.ring(5, 9);
        refused("below 0", x, x.apart(-1), 5);
        refused("above", x, x.apart(65536), 5);
        refused("nothing, before a RING", x, x.apart(1 << 5 | 1 << 6), 4);
        refused("a RING", x, x.apart(1 | 1 << 5), 8);
        due("none", x, x.apart(0), 1L, 0);
        due("two", x, x.apart(3), 1L, 0);
        due("both have 1", x, x.apart(5), 0L, 0);
        due("6 twice in one", x, x.apart(8), 0L, 0);
        due("with a MARK alone and the last SHELF", x, x.apart(3 | 1 << 4 | 1 << 15), 1L, 0);
        refused("all", x, x.apart(65535), 4);
        promise = 32;
        refused("SHELF first", x, x.gang(0, 0, 0, 16), 2);
        refused("0 RULERS", x, x.gang(0, 2, 0, 0), 5);
        refused("4 RULERS", x, x.gang(4, 2, 0, 0), 5);
        refused("1 MARK", x, x.gang(1, 1, 0, 0), 5);
        refused("5 MARKS", x, x.gang(1, 5, 0, 0), 5);
        refused("3 and 4", x, x.gang(3, 4, 0, 0), 5);
        refused("k -1", x, x.gang(2, 3, -1, 0), 5);
        refused("k 2 of 2", x, x.gang(2, 3, 2, 0), 5);
        String[][] due = {{"0 1"}, {"0 1 3"}, {"0 1 4 6"}, {"0 1", "0 2"}, {"0 1 4", "0 2 7"},
            {"0 1 10 13", "0 4 6 11"}, {"0 1", "0 2", "0 3"}, {"0 1 5", "0 2 8", "0 3 10"}};
        long[] greatest = {1, 3, 6, 2, 7, 13, 3, 10};
        for (int n = 0; n < due.length; n++) {
            int rulers = due[n].length;
            int marks = due[n][0].split(" ").length;
            for (int k = rulers - 1; k >= 0; k--) {
                due("GANG of " + rulers + " and " + marks, x, x.gang(rulers, marks, k, 9), greatest[n], 0);
                due("GANG of " + rulers + " and " + marks, shown(x, 9), due[n][k]);
            }
        }
    }

    private static void p33to34Fields() {
        RulerBench x = new RulerBench();
        int[] primes = {2, 3, 5, 7, 11, 13, 17, 19};
        for (int p : primes) {
            promise = 33;
            due("of " + p, x, x.lines(p, 0), true, 0);
            due("MARKS", x, x.tell(0, 1), p + 1L, 0);
            due("ROUND", x, x.tell(0, 3), p * p + p + 1L, 0);
            due("each length once", x, x.lacks(0), 0L, 0);
            promise = 34;
            due("of " + p, x, x.powers(p, 1), p != 2, p == 2 ? 5 : 0);
            if (p != 2) {
                due("MARKS", x, x.tell(1, 1), (long) p, 0);
                due("ROUND", x, x.tell(1, 3), p * p - 1L, 0);
                due("lacks but p + 1", x, x.lacks(1), p + 1L, 0);
            }
        }
        for (int p : new int[] {LOWEST, -2, 0, 1, 4, 9, 15, 18, 20, 23, HIGHEST}) {
            promise = 33;
            refused("of " + p, x, x.lines(p, 2), 5);
            refused("SHELF before " + p, x, x.lines(p, 16), 2);
            promise = 34;
            refused("of " + p, x, x.powers(p, 2), 5);
            refused("SHELF before " + p, x, x.powers(p, -1), 2);
        }
        due("nothing came", shown(x, 2), "-");
        promise = 33;
        String[] lines = {"0 1 3 / 7", "0 1 3 9 / 13", "0 1 3 8 12 18 / 31", "0 1 3 13 32 36 43 52 / 57"};
        for (int i = 0; i < lines.length; i++) {
            x.lines(primes[i], 3);
            due("of " + primes[i], shown(x, 3), lines[i]);
        }
        x.lines(19, 3);
        due("of 19", shown(x, 3), "0 1 3 43 49 63 110 115 122 131 139 149 226 257 290 301 327 331 346 359 / 381");
        promise = 34;
        String[] powers = {"0 1 6 / 8", "0 1 14 16 21 / 24", "0 1 4 10 30 35 37 / 48"};
        for (int i = 0; i < powers.length; i++) {
            x.powers(primes[i + 1], 3);
            due("of " + primes[i + 1], shown(x, 3), powers[i]);
        }
        x.powers(19, 3);
        due("of 19", shown(x, 3), "0 1 5 15 46 49 71 107 123 134 196 198 217 224 293 310 322 328 352 / 360");
    }

    public static void main(String[] args) {
        p1to2NewAndStatus();
        p3to4StickAndDrop();
        p5to8Numbers();
        p9Ruler();
        p10Ring();
        p11to12TellAndMark();
        p13to15Lengths();
        p16to17AddAndTake();
        p18Grow();
        p19to20TurnAndForm();
        p21Alike();
        p22to23FactorAndOpen();
        p24to26Best();
        p27to28Lean();
        p29Rings();
        p30Cases();
        p31to32ApartAndGang();
        p33to34Fields();
        System.out.println(wrong == 0 ? "all promises are kept" : wrong + " answers are not as due");
        System.exit(wrong == 0 ? 0 : 1);
    }
}
