/** The Terms and promises 9 to 23: each sentence that names a bound or a refused call. */
final class RulerBounds extends Sentences {
    private static final String TO_22 = "0 1 2 3 4 5 6 7 8 9 10 11 12 13 14 15 16 17 18 19 20 21 22";
    private static final String SPARSE_23 =
        "0 9 33 37 38 97 122 129 140 142 152 191 205 208 252 278 286 326 332 353 368 384 403";

    private RulerBounds() {
    }

    // ---- 2. SHELVES.

    @Says(in = "2. STICKS", words = "There are sixteen SHELVES, 0 to 15, each with a RULER (or RING) or nothing.")
    static void sixteenShelves() {
        for (int i = 0; i < Bench.SHELVES; i++) {
            given().gives(4, "ruler(" + i + ", 0, 3)", "0 1 3").gives(true, "lines(2, " + i + ")", "0 1 3 / 7");
        }
        given().gives(4, "tell(15, 1)").gives(4, "mark(15, 2)").gives(1, "measures(15, 9)").gives(2, "lacks(15)");
        given().gives(0, "twice(15)").gives(3, "add(15, 1000)").gives(3, "take(15, 9)").gives(11, "grow(15)");
        given().gives(true, "turn(15, 0)", "0 5 8 9").gives(true, "turn(0, 15)", "0 2 3")
            .gives(1, "form(15, 0)", "0 1 4 9");
        given().gives(1, "form(0, 15)", "0 1 3").gives(0, "alike(15, 0)").gives(0, "alike(0, 15)");
        given("15 = 0 1 3").gives(true, "ring(15, 7)", "0 1 3 / 7").gives(1, "alike(15, 0)");
        given("15 = 0 1 3 / 7", "0 = 0 1 3 / 7").gives(true, "factor(15, 6, 0)", "0 4 6 / 7")
            .gives(true, "factor(0, 6, 15)", "0 4 6 / 7").gives(3, "open(15, 2, 400, 0)", "0 4 5")
            .gives(3, "open(0, 2, 400, 15)", "0 4 5");
    }

    // ---- Terms.

    @Says(in = "Terms", words = "A RULER has 1 to 24 MARKS")
    static void oneTo24Marks() {
        given().gives(4, "ruler(11, 1, 1)", "0").gives(2, "ruler(11, 1, 24)", TO_22 + " 23");
        given().refuses(5, "ruler(11, 1, 0)").refuses(6, "ruler(11, 1, 25)");
        given("11 = " + TO_22).gives(2, "add(11, 23)", TO_22 + " 23").gives(23, "tell(11, 1)");
        given().refuses(9, "add(3, 24)", "take(5, 0)").gives(4, "take(6, 1000)", "0");
        given("11 = " + SPARSE_23).gives(425, "grow(11)", SPARSE_23 + " 425");
        given("11 = " + SPARSE_23 + " 425").refuses(9, "grow(11)");
    }

    @Says(in = "Terms", words = "whole numbers, rising, the first one 0")
    static void risingFrom0() {
        given("put(0, 0, 1)", "put(0, 1, 2)").gives(4, "ruler(11, 0, 2)", "0 1").gives(2, "ruler(11, 0, 3)", "0 1 2");
    }

    @Says(in = "Terms", words = "the last one at most 1,000: its LENGTH")
    static void lengthAtMost1000() {
        given("put(3, 0, 0)", "put(3, 1, 999)").gives(3, "ruler(11, 3, 2)", "0 999");
        given("put(3, 0, 0)", "put(3, 1, 1000)").gives(3, "ruler(11, 3, 2)", "0 1000");
        given("put(3, 0, 0)", "put(3, 1, 1001)").refuses(7, "ruler(11, 3, 2)");
        given().gives(3, "add(0, 999)", "0 1 3 999").gives(3, "add(0, 1000)", "0 1 3 1000").refuses(5, "add(0, 1001)");
        given("11 = 0 998").gives(999, "grow(11)", "0 998 999");
        given("11 = 0 999").gives(1000, "grow(11)", "0 999 1000");
        given().refuses(7, "grow(6)").gives(1000, "tell(6, 2)").gives(0, "tell(5, 2)");
    }

    @Says(in = "Terms", words = "A RING has a ROUND besides, a number from 2 to 400, above its LENGTH.")
    static void roundFrom2To400() {
        given().refuses(5, "ring(5, 1)").gives(true, "ring(5, 2)", "0 / 2").gives(true, "ring(5, 3)", "0 / 3");
        given().gives(true, "ring(5, 399)", "0 / 399").gives(true, "ring(5, 400)", "0 / 400")
            .refuses(5, "ring(5, 401)");
        given("11 = 0 398").refuses(5, "ring(11, 397)", "ring(11, 398)").gives(true, "ring(11, 399)", "0 398 / 399")
            .gives(true, "ring(11, 400)", "0 398 / 400");
        given("11 = 0 399").refuses(5, "ring(11, 399)").gives(true, "ring(11, 400)", "0 399 / 400");
        given("11 = 0 400").refuses(5, "ring(11, 400)", "ring(11, 401)");
    }

    @Says(in = "Terms",
        words = "A RULER that is no RING MEASURES a length d above 0 as often as two of its MARKS differ by d")
    static void measuredByARuler() {
        given().gives(23, "measures(3, 1)").gives(22, "measures(3, 2)").gives(1, "measures(3, 23)")
            .gives(0, "measures(3, 24)");
        given().gives(2, "measures(1, 4)").gives(1, "measures(1, 9)").gives(0, "measures(1, 10)")
            .gives(0, "measures(1, 2)");
        given().gives(0, "measures(6, 999)").gives(1, "measures(6, 1000)").gives(0, "measures(6, 1001)");
        given().gives(0, "measures(5, 1)").gives(0, "measures(6, MAX)");
    }

    @Says(in = "Terms", words = "a RING, for d from 1 to ROUND - 1")
    static void measuredByARing() {
        given().gives(1, "measures(4, 1)").gives(1, "measures(4, 399)").gives(0, "measures(4, 400)")
            .gives(0, "measures(4, 401)");
        given().gives(0, "measures(4, 2)").gives(0, "measures(4, 398)").gives(0, "measures(4, 799)")
            .gives(0, "measures(4, MAX)");
        given().gives(1, "measures(2, 1)").gives(1, "measures(2, 6)").gives(0, "measures(2, 7)")
            .gives(0, "measures(2, 8)");
        given().gives(0, "measures(7, 1)").gives(0, "measures(7, 2)");
    }

    @Says(in = "Terms", words = "from ROUND on to 0 (two unlike MARKS so each way once)")
    static void eachWayOnce() {
        Given each = given("11 = 0 2 / 7", "12 = 0 3 / 7", "13 = 0 2 / 5");
        long[] two = {0, 1, 0, 0, 1, 0};
        long[] three = {0, 0, 1, 1, 0, 0};
        for (int d = 1; d <= 6; d++) {
            each.gives(two[d - 1], "measures(11, " + d + ")").gives(three[d - 1], "measures(12, " + d + ")");
        }
        each.gives(0, "measures(13, 1)").gives(1, "measures(13, 2)").gives(1, "measures(13, 3)")
            .gives(0, "measures(13, 4)");
        given("11 = 0 3").gives(true, "ring(11, 5)").refuses(8, "ring(11, 6)").gives(true, "ring(11, 7)");
        given("11 = 0 200").gives(true, "ring(11, 399)").refuses(8, "ring(11, 400)");
    }

    private static void kind(long kind, String marks) {
        given("11 = " + marks).gives(kind, "tell(11, 0)");
    }

    @Says(in = "Terms", words = "4 PERFECT: no length is measured twice, and none from 1 to LENGTH is not")
    static void perfect() {
        kind(4, "0");
        kind(4, "0 1");
        kind(4, "0 1 3");
        kind(4, "0 2 3");
        kind(4, "0 1 4 6");
    }

    @Says(in = "Terms", words = "3 SPARSE: no length twice")
    static void sparse() {
        kind(3, "0 2");
        kind(3, "0 1 4");
        kind(3, "0 1 4 9 11");
        kind(3, "0 1 1000");
        kind(3, SPARSE_23 + " 1000");
    }

    @Says(in = "Terms", words = "2 FULL: each from 1 to LENGTH")
    static void full() {
        kind(2, "0 1 2");
        kind(2, "0 1 2 3");
        kind(2, "0 1 2 6 9");
        kind(2, TO_22 + " 23");
    }

    @Says(in = "Terms", words = "1 else")
    static void elseKind() {
        kind(1, "0 2 4");
        kind(1, "0 1 5 9");
        kind(1, "0 2 3 4 6");
        kind(1, TO_22 + " 46");
        kind(1, "0 500 1000");
    }

    @Says(in = "Terms", words = "A RULER is told by the first that fits of 4, 3, 2, 1; a RING is 5 always.")
    static void kindOfARing() {
        kind(5, "0 / 2");
        kind(5, "0 1 / 400");
        kind(5, "0 1 3 / 7");
        kind(5, "0 1 3 / 8");
        given("ring(0, 7)").gives(5, "tell(0, 0)");
        given().gives(4, "open(2, 0, 400, 2)", "0 1 3");
    }

    @Says(in = "Terms", words = "5 a RING (no length twice: else it is none)")
    static void noRingWithALengthTwice() {
        given().refuses(8, "ring(0, 4)", "ring(0, 5)", "ring(0, 6)", "ring(1, 400)", "ring(10, 400)");
        given().gives(true, "ring(0, 7)", "0 1 3 / 7").gives(true, "ring(0, 8)", "0 1 3 / 8");
    }

    @Says(in = "Terms",
        words = "RULERS of as many MARKS are in ORDER by the first MARK in which they differ, the lesser first")
    static void order() {
        given("11 = 0 1 3 4 9", "12 = 0 5 6 8 9").gives(1, "form(11, 13)", "0 1 3 4 9")
            .gives(0, "form(12, 13)", "0 1 3 4 9");
        given("11 = 0 1 4 5 8 9", "12 = 0 1 4 6 8 9").gives(1, "form(11, 13)").gives(0, "form(12, 13)", "0 1 3 5 8 9");
        given("11 = 0 4 5").gives(0, "form(11, 13)", "0 1 5");
    }

    @Says(in = "Terms", words = "ALIKE are a RULER and that turned end for end (each MARK x becomes LENGTH - x)")
    static void alikeRulers() {
        given("11 = 0 5 8 9", "12 = 0 1 4 10", "13 = 0 6 9 10").gives(1, "alike(15, 11)").gives(1, "alike(11, 15)")
            .gives(1, "alike(12, 13)").gives(0, "alike(15, 12)").gives(0, "alike(11, 13)").gives(1, "alike(15, 15)");
        given("11 = 0 2 5 9").gives(0, "alike(15, 11)");
        given("11 = 0", "12 = 0 1000").gives(1, "alike(5, 11)").gives(1, "alike(6, 12)");
    }

    @Says(in = "Terms", words = "for an a from 1 to n that has no common divisor with n but 1")
    static void alikeByAnA() {
        // 0 2 3 goes to 0 1 3 by a = 8 (and b = 3) alone, 0 2 6 by a = 5, 0 2 8 by a = 1 (and b = 1).
        given("11 = 0 1 3 / 9", "12 = 0 2 3 / 9", "13 = 0 2 6 / 9", "14 = 0 2 8 / 9").gives(1, "alike(11, 12)")
            .gives(1, "alike(12, 11)").gives(1, "alike(11, 13)").gives(1, "alike(11, 14)").gives(1, "alike(13, 14)");
        given("11 = 0 1 / 12", "12 = 0 2 / 12", "13 = 0 3 / 12", "14 = 0 4 / 12").gives(0, "alike(11, 12)")
            .gives(0, "alike(11, 13)").gives(0, "alike(11, 14)").gives(0, "alike(12, 14)").gives(0, "alike(14, 12)");
        given("11 = 0 1 / 12", "12 = 0 5 / 12", "13 = 0 7 / 12", "14 = 0 11 / 12").gives(1, "alike(11, 12)")
            .gives(1, "alike(11, 13)").gives(1, "alike(11, 14)").gives(0, "form(14, 14)", "0 1 / 12");
        given("11 = 0 1 / 3", "12 = 0 2 / 3").gives(1, "alike(11, 12)").gives(0, "form(12, 13)", "0 1 / 3")
            .gives(1, "form(7, 13)", "0 / 2");
    }

    @Says(in = "Terms", words = "and any b, if 0 is a MARK of that")
    static void alikeByAB() {
        given("11 = 0 1 3 / 9", "12 = 0 2 8 / 9", "13 = 0 6 7 / 9").gives(1, "alike(11, 12)").gives(1, "alike(11, 13)")
            .gives(1, "alike(12, 13)").gives(0, "form(12, 14)", "0 1 3 / 9").gives(0, "form(13, 14)", "0 1 3 / 9");
        given("11 = 0 1 4 / 12", "12 = 0 1 3 / 12", "13 = 0 1 5 / 12").gives(0, "alike(11, 12)")
            .gives(0, "alike(12, 13)");
    }

    @Says(in = "Terms", words = "Its FORM is the first by ORDER of those ALIKE with it.")
    static void formIsTheFirst() {
        given("11 = 0 2 3 / 9", "12 = 0 1 7 / 9", "13 = 0 6 8 / 9").gives(0, "form(11, 14)", "0 1 3 / 9")
            .gives(0, "form(12, 14)", "0 1 3 / 9").gives(0, "form(13, 14)", "0 1 3 / 9");
        given("11 = 0 7 9 10 / 15", "form(2, 2)").gives(0, "form(11, 14)", "0 1 3 10 / 15");
        given("11 = 0 2 3 / 9", "form(4, 4)", "form(7, 7)", "form(11, 12)").gives(0, "form(11, 14)", "0 1 3 / 9")
            .gives(1, "alike(11, 12)");
        given("11 = 0 1 4 9").gives(1, "form(11, 11)", "0 1 4 9").gives(1, "form(8, 8)", "0 2 7 8 11");
    }

    // ---- Promise 9: ruler.

    @Says(in = "Promise 9", words = "(1, 2, 3, 5, 6, 7)")
    static void rulerOfNoneSuch() {
        refusesNoStick("ruler(11, #, 3)");
        refusesNoShelf("ruler(#, 0, 3)");
        given().refuses(3, "ruler(11, 4, 1)", "ruler(11, 5, 1)", "ruler(0, 5, 1)");
    }

    @Says(in = "Promise 9", words = "so many (5: none)")
    static void rulerOfNone() {
        given().refuses(5, "ruler(11, 0, 0)", "ruler(11, 0, -1)", "ruler(11, 0, MIN)", "ruler(11, 2, 0)",
            "ruler(0, 0, 0)");
        given().gives(4, "ruler(11, 0, 1)", "0").gives(4, "ruler(11, 0, 2)", "0 1");
    }

    @Says(in = "4. STATUS", words = "6 a place, or so many, that the STICK has not.")
    static void rulerOfMoreThanTheStickHas() {
        given().refuses(6, "ruler(11, 0, 4)", "ruler(11, 0, 24)", "ruler(11, 0, MAX)", "ruler(11, 1, 25)",
            "ruler(11, 2, 1)");
        given().gives(4, "ruler(11, 0, 3)", "0 1 3").gives(2, "ruler(11, 1, 24)", TO_22 + " 23")
            .gives(2, "ruler(11, 1, 23)", TO_22);
        given("cut(1, 2)").refuses(6, "ruler(11, 1, 3)").gives(4, "ruler(11, 1, 2)", "0 1");
    }

    @Says(in = "4. STATUS", words = "7 the numbers do not rise")
    static void rulerThatDoesNotRise() {
        given().refuses(7, "ruler(11, 3, 2)", "ruler(11, 3, 3)", "ruler(0, 3, 3)").gives(4, "ruler(11, 3, 1)", "0");
        given("put(3, 1, 6)").gives(3, "ruler(11, 3, 3)", "0 1 4").gives(4, "ruler(11, 3, 2)", "0 1");
        given("put(3, 1, 4)").refuses(7, "ruler(11, 3, 2)", "ruler(11, 3, 3)");
        given("put(0, 2, 1)").refuses(7, "ruler(11, 0, 3)").gives(4, "ruler(11, 0, 2)", "0 1");
        given("put(0, 2, 0)").refuses(7, "ruler(11, 0, 3)").gives(4, "ruler(11, 0, 2)", "0 1");
        given("put(0, 2, 2)").gives(2, "ruler(11, 0, 3)", "0 1 2");
        given("put(0, 2, 128)").refuses(7, "ruler(11, 0, 3)");
        given("put(1, 23, 22)").refuses(7, "ruler(11, 1, 24)").gives(2, "ruler(11, 1, 23)", TO_22);
    }

    private static Given pair(String one, String other) {
        return given("put(3, 0, " + one + ")", "put(3, 1, " + other + ")");
    }

    @Says(in = "4. STATUS", words = "or go further than a RULER's may.")
    static void rulerThatGoesTooFar() {
        pair("-500", "499").gives(3, "ruler(11, 3, 2)", "0 999");
        pair("-500", "500").gives(3, "ruler(11, 3, 2)", "0 1000");
        pair("-500", "501").refuses(7, "ruler(11, 3, 2)").gives(4, "ruler(11, 3, 1)", "0");
        pair("-9223372036854775808", "-9223372036854774808").gives(3, "ruler(11, 3, 2)", "0 1000");
        pair("-9223372036854775808", "-9223372036854774807").refuses(7, "ruler(11, 3, 2)");
        pair("9223372036854774807", "9223372036854775807").gives(3, "ruler(11, 3, 2)", "0 1000");
        pair("9223372036854774806", "9223372036854775807").refuses(7, "ruler(11, 3, 2)");
        pair("-9223372036854775808", "9223372036854775807").refuses(7, "ruler(11, 3, 2)")
            .gives(4, "ruler(11, 3, 1)", "0");
        pair("-1", "9223372036854775807").refuses(7, "ruler(11, 3, 2)");
        pair("0", "9223372036854775807").refuses(7, "ruler(11, 3, 2)");
        pair("0", "4294967296").refuses(7, "ruler(11, 3, 2)");
        pair("0", "4294967297").refuses(7, "ruler(11, 3, 2)");
        given("put(3, 0, 0)", "put(3, 1, 1)", "put(3, 2, 1001)").refuses(7, "ruler(11, 3, 3)")
            .gives(4, "ruler(11, 3, 2)", "0 1");
        given("put(3, 0, 1)", "put(3, 1, 2)", "put(3, 2, 1001)").gives(3, "ruler(11, 3, 3)", "0 1 1000");
    }

    @Says(in = "Promise 9", words = "each less the first, are a RULER on a SHELF")
    static void rulerLessTheFirst() {
        pair("-3", "-2").gives(4, "ruler(11, 3, 2)", "0 1").gives(4, "ruler(2, 3, 2)", "0 1")
            .gives(4, "ruler(3, 3, 1)", "0");
        pair("7", "8").gives(2, "ruler(0, 3, 3)", "0 1 2");
    }

    // ---- Promise 10: ring.

    @Says(in = "Promise 10", words = "(2, 4; 5: not 2 to 400")
    static void ringOfNoneSuch() {
        refusesNoShelf("ring(#, 7)");
        refusesNothing("ring(#, 7)");
    }

    @Says(in = "Promise 10", words = "5: not 2 to 400")
    static void ringNot2To400() {
        given().refuses(5, "ring(5, 1)", "ring(5, 0)", "ring(5, -1)", "ring(5, MIN)", "ring(5, 401)", "ring(5, MAX)",
            "ring(7, 1)");
        given().gives(true, "ring(5, 2)", "0 / 2").gives(true, "ring(5, 400)", "0 / 400")
            .gives(true, "ring(0, 400)", "0 1 3 / 400");
        given().refuses(5, "ring(0, 401)", "ring(4, 401)", "ring(2, 401)");
    }

    @Says(in = "Promise 10", words = "or not above LENGTH")
    static void ringNotAboveLength() {
        given("11 = 0 3").refuses(5, "ring(11, 2)", "ring(11, 3)").gives(true, "ring(11, 4)", "0 3 / 4")
            .gives(true, "ring(11, 5)", "0 3 / 5");
        given().refuses(5, "ring(0, 3)", "ring(4, 399)", "ring(2, 3)", "ring(6, 400)", "ring(6, 1000)",
            "ring(6, 1001)");
        given().gives(true, "ring(4, 400)", "0 399 / 400");
    }

    @Says(in = "Promise 10", words = "8: a length would be twice")
    static void ringWithALengthTwice() {
        given().refuses(8, "ring(0, 4)", "ring(0, 5)", "ring(0, 6)", "ring(1, 10)", "ring(1, 400)", "ring(3, 24)");
        given("11 = 0 1").refuses(8, "ring(11, 2)").gives(true, "ring(11, 3)", "0 1 / 3");
        given("11 = 0 1 4 6").refuses(8, "ring(11, 12)").gives(true, "ring(11, 13)", "0 1 4 6 / 13");
    }

    @Says(in = "Promise 10", words = "The RULER of a SHELF (also of a RING) is a RING of a ROUND")
    static void ringOfARing() {
        given().gives(true, "ring(2, 7)", "0 1 3 / 7").gives(true, "ring(2, 8)", "0 1 3 / 8").refuses(8, "ring(2, 6)");
        given().gives(true, "ring(7, 400)", "0 / 400").gives(true, "ring(8, 23)", "0 2 7 8 11 / 23");
    }

    // ---- Promises 11 and 12: tell, mark.

    @Says(in = "Promise 11", words = "(2, 4, 5)")
    static void tellOfNoneSuch() {
        refusesNoShelf("tell(#, 0)");
        refusesNothing("tell(#, 0)");
        given().refuses(5, "tell(0, -1)", "tell(0, 4)", "tell(0, MIN)", "tell(0, MAX)", "tell(2, 4)");
    }

    @Says(in = "Promise 11", words = "Of a SHELF, what 0: KIND, 1: MARKS, 2: LENGTH, 3: ROUND (0 of no RING)")
    static void tellWhat() {
        given().gives(4, "tell(0, 0)").gives(3, "tell(0, 1)").gives(3, "tell(0, 2)").gives(0, "tell(0, 3)");
        given().gives(5, "tell(2, 0)").gives(3, "tell(2, 1)").gives(3, "tell(2, 2)").gives(7, "tell(2, 3)");
        given().gives(4, "tell(5, 0)").gives(1, "tell(5, 1)").gives(0, "tell(5, 2)").gives(0, "tell(5, 3)");
        given().gives(2, "tell(3, 0)").gives(24, "tell(3, 1)").gives(23, "tell(3, 2)").gives(0, "tell(3, 3)");
        given().gives(5, "tell(7, 0)").gives(1, "tell(7, 1)").gives(0, "tell(7, 2)").gives(2, "tell(7, 3)");
        given().gives(1, "tell(1, 0)").gives(3, "tell(6, 0)").gives(1000, "tell(6, 2)").gives(400, "tell(4, 3)");
    }

    @Says(in = "Promise 12", words = "(2, 4; 5: there is none such)")
    static void markOfNoneSuch() {
        refusesNoShelf("mark(#, 0)");
        refusesNothing("mark(#, 0)");
    }

    @Says(in = "Promise 12", words = "5: there is none such")
    static void markThatIsNone() {
        given().refuses(5, "mark(0, -1)", "mark(0, 3)", "mark(0, MIN)", "mark(0, MAX)", "mark(3, 24)", "mark(5, 1)",
            "mark(2, 3)");
        given().gives(0, "mark(0, 0)").gives(1, "mark(0, 1)").gives(3, "mark(0, 2)").gives(22, "mark(3, 22)");
        given().gives(23, "mark(3, 23)").gives(0, "mark(5, 0)").gives(0, "mark(2, 0)").gives(3, "mark(2, 2)");
        given("take(3, 23)").refuses(5, "mark(3, 23)").gives(22, "mark(3, 22)");
        given("take(3, 0)").refuses(5, "mark(3, 23)").gives(0, "mark(3, 0)").gives(22, "mark(3, 22)");
    }

    // ---- Promises 13 to 15: measures, lacks, twice.

    @Says(in = "Promise 13", words = "(2, 4; 5: below 1)")
    static void measuresOfNoneSuch() {
        refusesNoShelf("measures(#, 1)");
        refusesNothing("measures(#, 1)");
    }

    @Says(in = "Promise 13", words = "5: below 1")
    static void measuresBelow1() {
        given().refuses(5, "measures(0, 0)", "measures(0, -1)", "measures(0, -3)", "measures(0, MIN)",
            "measures(2, 0)", "measures(5, 0)");
        given().gives(1, "measures(0, 1)").gives(1, "measures(0, 2)").gives(1, "measures(2, 1)")
            .gives(0, "measures(5, 1)");
    }

    @Says(in = "Promise 14", words = "The least length from 1 to LENGTH")
    static void lacksUpToLength() {
        refusesNoShelf("lacks(#)");
        refusesNothing("lacks(#)");
        given("11 = 0 2", "12 = 0 2 3 4 6", "13 = 0 1 4").gives(1, "lacks(11)").gives(5, "lacks(12)")
            .gives(2, "lacks(13)");
        given().gives(1, "lacks(6)").gives(2, "lacks(1)");
    }

    @Says(in = "Promise 14", words = "(of a RING to ROUND - 1)")
    static void lacksUpToRound() {
        given("ring(0, 8)").gives(4, "lacks(0)");
        given("11 = 0 1 4 6 / 15").gives(7, "lacks(11)");
        given().gives(1, "lacks(7)").gives(2, "lacks(4)").gives(0, "lacks(2)");
        given("11 = 0 1 / 3", "12 = 0 1 / 4").gives(0, "lacks(11)").gives(2, "lacks(12)");
    }

    @Says(in = "Promise 14", words = "0 if there is none (2, 4)")
    static void lacksNone() {
        given().gives(0, "lacks(0)").gives(0, "lacks(3)").gives(0, "lacks(5)").gives(0, "lacks(10)")
            .gives(0, "lacks(2)");
    }

    @Says(in = "Promise 15", words = "The least length that is MEASURED twice or more")
    static void twiceTheLeast() {
        refusesNoShelf("twice(#)");
        refusesNothing("twice(#)");
        given("11 = 0 500 1000", "12 = 0 2 5 7 8", "13 = 0 2 4 6").gives(500, "twice(11)").gives(2, "twice(12)")
            .gives(2, "twice(13)");
        given().gives(1, "twice(3)").gives(4, "twice(1)").gives(1, "twice(10)");
    }

    @Says(in = "Promise 15", words = "0 if there is none (2, 4)")
    static void twiceNone() {
        given().gives(0, "twice(0)").gives(0, "twice(5)").gives(0, "twice(2)").gives(0, "twice(4)").gives(0, "twice(7)")
            .gives(0, "twice(6)").gives(0, "twice(9)");
    }

    // ---- Promises 16 to 18: add, take, grow.

    @Says(in = "Promise 16", words = "(2, 4; 5: not 1 to 1,000;")
    static void addToNoneSuch() {
        refusesNoShelf("add(#, 2)");
        refusesNothing("add(#, 2)");
    }

    @Says(in = "Promise 16", words = "5: not 1 to 1,000")
    static void addNot1To1000() {
        given().refuses(5, "add(8, 0)", "add(8, -1)", "add(8, MIN)", "add(8, 1001)", "add(8, MAX)", "add(5, 0)");
        given().gives(2, "add(8, 1)", "0 1 2 7 8 11").gives(1, "add(8, 3)", "0 2 3 7 8 11");
        given().gives(3, "add(8, 999)", "0 2 7 8 11 999").gives(3, "add(8, 1000)", "0 2 7 8 11 1000");
        given().gives(3, "add(5, 1000)", "0 1000").gives(4, "add(5, 1)", "0 1").gives(3, "add(6, 999)", "0 999 1000");
    }

    @Says(in = "Promise 16", words = "8: a RING; 9: it is there")
    static void addToARing() {
        given().refuses(8, "add(2, 2)", "add(2, 4)", "add(7, 1)", "add(4, 1000)");
    }

    @Says(in = "Promise 16", words = "9: it is there, or there are 24")
    static void addThatIsThere() {
        given().refuses(9, "add(0, 1)", "add(0, 3)", "add(6, 1000)", "add(8, 7)");
        given().gives(2, "add(0, 2)", "0 1 2 3").gives(3, "add(0, 7)", "0 1 3 7").gives(2, "add(0, 4)", "0 1 3 4");
    }

    @Says(in = "Promise 16", words = "or there are 24): the KIND.")
    static void addTo24() {
        given().refuses(9, "add(3, 24)", "add(3, 1000)", "add(3, 5)", "add(9, 1)", "add(9, 999)");
        given("take(3, 23)").gives(2, "add(3, 24)", TO_22 + " 24").gives(1, "add(3, 1000)", TO_22 + " 1000")
            .refuses(9, "add(3, 22)");
        given("take(3, 23)", "add(3, 23)").refuses(9, "add(3, 24)");
    }

    @Says(in = "Promise 17", words = "(2, 4; 8: a RING; 9: it is not there")
    static void takeFromNoneSuch() {
        refusesNoShelf("take(#, 0)");
        refusesNothing("take(#, 0)");
    }

    @Says(in = "Promise 17", words = "8: a RING; 9: it is not there, or alone")
    static void takeFromARing() {
        given().refuses(8, "take(2, 0)", "take(2, 3)", "take(4, 399)");
    }

    @Says(in = "Promise 17", words = "9: it is not there")
    static void takeThatIsNotThere() {
        given().refuses(9, "take(0, 2)", "take(0, 4)", "take(0, -1)", "take(0, MIN)", "take(0, MAX)", "take(6, 999)",
            "take(6, 1001)",
            "take(3, 24)");
        given().gives(4, "take(0, 3)", "0 1").gives(3, "take(0, 1)", "0 3").gives(2, "take(3, 23)", TO_22);
        given().gives(2, "take(3, 1)", TO_22.replace("0 1 2", "0 2") + " 23");
    }

    @Says(in = "Promise 17", words = "or alone): the KIND.")
    static void takeAlone() {
        given().refuses(9, "take(5, 0)", "take(5, 1)").gives(4, "take(6, 0)", "0").gives(4, "take(6, 1000)", "0");
    }

    @Says(in = "Promise 17", words = "what is left begins at 0 again")
    static void takeTheFirst() {
        given().gives(3, "take(0, 0)", "0 2").gives(3, "take(15, 0)", "0 3 8").gives(3, "take(15, 1)", "0 4 9");
        given().gives(2, "take(3, 0)", TO_22).gives(4, "take(10, 0)", "0 1");
    }

    @Says(in = "Promise 18", words = "(2, 4; 8: a RING, or a length is twice already")
    static void growOfNoneSuch() {
        refusesNoShelf("grow(#)");
        refusesNothing("grow(#)");
        given().refuses(8, "grow(2)", "grow(4)", "grow(7)");
    }

    @Says(in = "Promise 18", words = "or a length is twice already")
    static void growWithALengthTwice() {
        given().refuses(8, "grow(1)", "grow(10)").gives(7, "grow(0)", "0 1 3 7").gives(11, "grow(15)", "0 1 4 9 11");
        given("11 = 0 500 1000", "12 = 0 2 4", "13 = 0 2 5").refuses(8, "grow(11)", "grow(12)")
            .gives(6, "grow(13)", "0 2 5 6");
    }

    @Says(in = "Promise 18", words = "9: 24 MARKS")
    static void growOf24() {
        given("11 = " + SPARSE_23).gives(425, "grow(11)", SPARSE_23 + " 425").refuses(9, "grow(9)");
        given("11 = " + SPARSE_23 + " 425").refuses(9, "grow(11)");
    }

    @Says(in = "Promise 18", words = "7: it would be above 1,000")
    static void growAbove1000() {
        given("11 = 0 999", "12 = 0 1 998", "13 = 0 1 999").gives(1000, "grow(11)", "0 999 1000")
            .gives(1000, "grow(12)", "0 1 998 1000").refuses(7, "grow(13)", "grow(6)");
        given("11 = 0 997", "12 = 0 1 997", "13 = 0 1 997 999").gives(998, "grow(11)", "0 997 998")
            .gives(999, "grow(12)", "0 1 997 999").refuses(7, "grow(13)");
    }

    @Says(in = "Promise 18", words = "asked in this order")
    static void growInOrder() {
        given("11 = 0 500 1000").refuses(8, "grow(11)", "grow(3)").refuses(9, "grow(9)");
        given("11 = " + TO_22 + " 1000").refuses(8, "grow(11)");
    }

    @Says(in = "Promise 18",
        words = "The least MARK above LENGTH with which no length is twice comes to a SHELF's RULER")
    static void growByTheLeast() {
        given().gives(1, "grow(5)", "0 1").gives(7, "grow(0)", "0 1 3 7");
        given("11 = 0 1", "12 = 0 2", "13 = 0 3").gives(3, "grow(11)", "0 1 3").gives(3, "grow(12)", "0 2 3")
            .gives(4, "grow(13)", "0 3 4");
    }

    // ---- Promises 19 to 21: turn, form, alike.

    @Says(in = "Promise 19", words = "comes to a SHELF (2, 4;")
    static void turnOfNoneSuch() {
        refusesNoShelf("turn(#, 11)", "turn(0, #)", "turn(11, #)");
        refusesNothing("turn(#, 0)", "turn(#, #)");
    }

    @Says(in = "Promise 19", words = "What is on a SHELF, turned end for end")
    static void turned() {
        given().gives(true, "turn(0, 11)", "0 2 3").gives(true, "turn(0, 0)", "0 2 3").gives(true, "turn(5, 11)", "0");
        given().gives(true, "turn(6, 6)", "0 1000").gives(true, "turn(3, 11)", TO_22 + " 23")
            .gives(true, "turn(15, 2)", "0 5 8 9");
    }

    @Says(in = "Promise 19", words = "a RING: each MARK x becomes the rest of - x by ROUND")
    static void turnedRing() {
        given().gives(true, "turn(2, 11)", "0 4 6 / 7").gives(true, "turn(2, 2)", "0 4 6 / 7")
            .gives(true, "turn(7, 11)", "0 / 2");
        given().gives(true, "turn(4, 11)", "0 1 / 400").gives(true, "turn(2, 0)", "0 4 6 / 7");
    }

    @Says(in = "Promise 20", words = "The FORM comes to a SHELF (2, 4)")
    static void formOfNoneSuch() {
        refusesNoShelf("form(#, 11)", "form(0, #)", "form(11, #)");
        refusesNothing("form(#, 0)", "form(#, #)");
    }

    @Says(in = "Promise 20", words = "whether it is as it was, 1 or 0")
    static void formAsItWas() {
        given().gives(1, "form(0, 11)", "0 1 3").gives(1, "form(0, 0)", "0 1 3").gives(1, "form(5, 11)", "0")
            .gives(1, "form(7, 0)", "0 / 2");
        given("11 = 0 2 3", "12 = 0 2 3 / 7").gives(0, "form(11, 11)", "0 1 3").gives(0, "form(12, 0)", "0 1 3 / 7");
        given().gives(1, "form(3, 11)", TO_22 + " 23").gives(1, "form(2, 0)", "0 1 3 / 7")
            .gives(0, "form(4, 4)", "0 1 / 400");
    }

    @Says(in = "Promise 21", words = "Whether two are ALIKE: 1 or 0 (2, 4;")
    static void alikeOfNoneSuch() {
        refusesNoShelf("alike(#, 0)", "alike(0, #)", "alike(#, 11)", "alike(11, #)", "alike(#, #)");
        refusesNothing("alike(#, 0)", "alike(0, #)", "alike(#, #)");
    }

    @Says(in = "Promise 21", words = "a RING and none, unlike ROUNDS, numbers of MARKS: 0")
    static void alikeUnlikeAtOnce() {
        given("11 = 0 1 3 / 8").gives(0, "alike(0, 2)").gives(0, "alike(2, 0)").gives(0, "alike(2, 11)")
            .gives(0, "alike(11, 2)");
        given("11 = 0 1 3 7", "12 = 0 1 / 7", "13 = 0").gives(0, "alike(0, 11)").gives(0, "alike(11, 0)")
            .gives(0, "alike(2, 12)")
            .gives(0, "alike(12, 2)").gives(1, "alike(5, 13)").gives(0, "alike(5, 7)").gives(0, "alike(7, 5)");
    }

    // ---- Promises 22 and 23: factor, open.

    @Says(in = "Promise 22", words = "(2, 4; 5: k not 1 to 400;")
    static void factorOfNoneSuch() {
        refusesNoShelf("factor(#, 2, 11)", "factor(2, 2, #)", "factor(11, 2, #)");
        refusesNothing("factor(#, 2, 0)", "factor(#, 2, #)");
    }

    @Says(in = "Promise 22", words = "5: k not 1 to 400")
    static void factorNot1To400() {
        given().refuses(5, "factor(2, 0, 11)", "factor(2, -1, 11)", "factor(2, MIN, 11)", "factor(2, 401, 11)",
            "factor(2, MAX, 2)");
        given().gives(true, "factor(2, 1, 11)", "0 1 3 / 7").gives(true, "factor(2, 2, 11)", "0 2 6 / 7");
        given().gives(true, "factor(2, 398, 11)", "0 4 6 / 7").gives(true, "factor(2, 400, 11)", "0 1 3 / 7");
        given().gives(true, "factor(4, 399, 11)", "0 1 / 400").gives(true, "factor(4, 1, 11)", "0 399 / 400");
    }

    @Says(in = "Promise 22", words = "8: no RING")
    static void factorOfNoRing() {
        given().refuses(8, "factor(0, 2, 11)", "factor(0, 1, 0)", "factor(5, 1, 11)", "factor(0, 400, 2)");
    }

    @Says(in = "Promise 22", words = "or k and ROUND have a common divisor")
    static void factorWithACommonDivisor() {
        given().refuses(8, "factor(2, 7, 11)", "factor(2, 14, 11)", "factor(2, 399, 11)", "factor(4, 400, 11)",
            "factor(4, 2, 11)",
            "factor(4, 5, 4)", "factor(7, 2, 11)", "factor(7, 400, 11)");
        given().gives(true, "factor(2, 6, 11)", "0 4 6 / 7").gives(true, "factor(2, 8, 11)", "0 1 3 / 7");
        given().gives(true, "factor(4, 3, 4)", "0 397 / 400").gives(true, "factor(7, 1, 11)", "0 / 2")
            .gives(true, "factor(7, 399, 0)", "0 / 2");
        given("11 = 0 1 / 12").refuses(8, "factor(11, 9, 12)", "factor(11, 12, 12)")
            .gives(true, "factor(11, 25, 12)", "0 1 / 12")
            .gives(true, "factor(11, 35, 12)", "0 11 / 12");
    }

    @Says(in = "Promise 23", words = "(2, 4; 5: no such MARK")
    static void openOfNoneSuch() {
        refusesNoShelf("open(#, 0, 9, 11)", "open(2, 0, 9, #)", "open(11, 0, 9, #)");
        refusesNothing("open(#, 0, 9, 0)", "open(#, 0, 9, #)");
    }

    @Says(in = "Promise 23", words = "5: no such MARK")
    static void openAtNoMark() {
        given().refuses(5, "open(2, -1, 9, 11)", "open(2, 3, 9, 11)", "open(2, MIN, 9, 11)", "open(2, MAX, 9, 2)",
            "open(7, 1, 9, 11)");
        given().gives(4, "open(2, 0, 9, 11)", "0 1 3").gives(3, "open(2, 1, 9, 11)", "0 2 6")
            .gives(3, "open(2, 2, 9, 11)", "0 4 5");
    }

    @Says(in = "Promise 23", words = "a place below 0")
    static void openBelow0() {
        given().refuses(5, "open(2, 0, -1, 11)", "open(2, 2, MIN, 2)").gives(4, "open(2, 0, 0, 11)", "0")
            .gives(4, "open(2, 2, 0, 2)", "0");
        given().gives(4, "open(2, 0, 1, 11)", "0 1");
    }

    @Says(in = "Promise 23", words = "8: no RING")
    static void openOfNoRing() {
        given().refuses(8, "open(0, 0, 9, 11)", "open(0, 2, 0, 0)", "open(5, 0, 0, 11)", "open(6, 1, MAX, 2)");
    }

    @Says(in = "Promise 23", words = "each MARK less it (those below it by ROUND more)")
    static void openedMarks() {
        given().gives(3, "open(2, 2, MAX, 11)", "0 4 5").gives(3, "open(2, 1, 400, 2)", "0 2 6")
            .gives(4, "open(4, 1, 400, 4)", "0 1");
        given().gives(3, "open(4, 0, 400, 0)", "0 399").gives(4, "open(7, 0, 400, 7)", "0");
        given("factor(2, 6, 11)", "turn(8, 12)").gives(4, "open(2, 0, 9, 13)", "0 1 3")
            .gives(4, "open(11, 1, 9, 13)", "0 2 3");
    }

    @Says(in = "Promise 23", words = "those above a place left out")
    static void openUpToAPlace() {
        given().gives(3, "open(2, 1, 5, 11)", "0 2").gives(3, "open(2, 1, 6, 11)", "0 2 6")
            .gives(3, "open(2, 1, 7, 11)", "0 2 6");
        given().gives(4, "open(2, 1, 1, 11)", "0").gives(3, "open(2, 1, 2, 11)", "0 2")
            .gives(3, "open(4, 0, 399, 11)", "0 399");
        given().gives(4, "open(4, 0, 398, 11)", "0").gives(3, "open(2, 2, 4, 11)", "0 4")
            .gives(4, "open(2, 2, 3, 11)", "0");
    }
}
