/** Section 3 and promises 24 to 34: each sentence that names a bound or a refused call. */
final class SearchBounds extends Sentences {
    private SearchBounds() {
    }

    /** The numbers of a row of answers: just below it, its ends, and just above it. */
    private static void numbered(String call, int many, Object answer) {
        given().refuses(9, call.replace("#", "-1"), call.replace("#", "" + many));
        given().gives(answer, call.replace("#", "0")).gives(answer, call.replace("#", "" + (many - 1)));
    }

    // ---- SHORTEST, BEST.

    @Says(in = "3. SEARCHES", words = "SHORTEST of m (1 to 7)")
    static void shortestOf1To7() {
        given().refuses(5, "shortest(0)", "shortest(8)", "many(0)", "many(8)", "best(0, 0, 11)", "best(8, 0, 11)");
        given().gives(0, "shortest(1)").gives(1, "shortest(2)").gives(17, "shortest(6)").gives(25, "shortest(7)");
        given().gives(1, "many(1)").gives(1, "many(2)").gives(4, "many(6)").gives(5, "many(7)");
        given().gives(true, "best(1, 0, 11)", "0").gives(true, "best(2, 0, 11)", "0 1")
            .gives(true, "best(6, 0, 11)", "0 1 4 10 12 17").gives(true, "best(7, 0, 11)", "0 1 4 10 18 23 25");
    }

    @Says(in = "3. SEARCHES", words = "the least LENGTH of a RULER of m MARKS that is SPARSE or PERFECT")
    static void shortestIsTheLeast() {
        int[] least = {0, 0, 1, 3, 6, 11, 17};
        for (int m = 2; m <= 6; m++) {
            given().gives(least[m], "shortest(" + m + ")");
            Bench bench = new Bench();
            boolean shorter = m > 2 && !bench.call("cases(" + m + ", " + (least[m] - 1) + ", 1)").equals(0L);
            Given.check("a shorter one of " + m, shorter, false);
            Given.check("none so short of " + m, bench.call("cases(" + m + ", " + least[m] + ", 1)").equals(0L), false);
        }
    }

    @Says(in = "3. SEARCHES",
        words = "BEST of m: all of these with that LENGTH, each that is its own FORM, in ORDER, numbered from 0")
    static void bestInOrder() {
        String[][] rows = {{"0"}, {"0 1"}, {"0 1 3"}, {"0 1 4 6"}, {"0 1 4 9 11", "0 2 7 8 11"},
            {"0 1 4 10 12 17", "0 1 4 10 15 17", "0 1 8 11 13 17", "0 1 8 12 14 17"},
            {"0 1 4 10 18 23 25", "0 1 7 11 20 23 25", "0 1 11 16 19 23 25", "0 2 3 10 16 21 25", "0 2 7 13 21 22 25"}};
        for (int m = 1; m <= 7; m++) {
            given().gives(rows[m - 1].length, "many(" + m + ")");
            for (int i = 0; i < rows[m - 1].length; i++) {
                given().gives(true, "best(" + m + ", " + i + ", 11)", rows[m - 1][i]);
            }
        }
    }

    @Says(in = "Promise 24", words = "SHORTEST (5).")
    static void shortestOfNoneSuch() {
        given().refuses(5, "shortest(0)", "shortest(-1)", "shortest(8)", "shortest(MIN)", "shortest(MAX)");
        given().gives(0, "shortest(1)").gives(25, "shortest(7)");
    }

    @Says(in = "Promise 25", words = "How many BEST there are (5).")
    static void manyOfNoneSuch() {
        given().refuses(5, "many(0)", "many(-1)", "many(8)", "many(MIN)", "many(MAX)").gives(1, "many(1)")
            .gives(5, "many(7)");
    }

    @Says(in = "Promise 26", words = "BEST i comes to a SHELF (2, 5; 9: there is none such)")
    static void bestOfNoneSuch() {
        refusesNoShelf("best(5, 0, #)");
        given().refuses(5, "best(0, 0, 11)", "best(-1, 0, 11)", "best(8, 0, 11)", "best(MIN, 0, 0)", "best(MAX, 0, 2)");
        given().gives(true, "best(5, 0, 0)", "0 1 4 9 11").gives(true, "best(5, 0, 15)", "0 1 4 9 11")
            .gives(true, "best(5, 0, 2)", "0 1 4 9 11");
    }

    @Says(in = "Promise 26", words = "9: there is none such")
    static void bestThatIsNone() {
        int[] many = {1, 1, 1, 1, 2, 4, 5};
        for (int m = 1; m <= 7; m++) {
            numbered("best(" + m + ", #, 11)", many[m - 1], true);
        }
        given().refuses(9, "best(7, MIN, 0)", "best(7, MAX, 2)");
    }

    // ---- FEWEST, LEAN.

    @Says(in = "3. SEARCHES", words = "FEWEST of a LENGTH n (0 to 24)")
    static void fewestOf0To24() {
        given().refuses(5, "fewest(-1)", "fewest(25)", "lean(-1, 0, 11)", "lean(25, 0, 11)");
        given().gives(1, "fewest(0)").gives(2, "fewest(1)").gives(8, "fewest(23)").gives(9, "fewest(24)");
        given().gives(1, "lean(0, 0, 11)", "0").gives(1, "lean(1, 0, 11)", "0 1")
            .gives(2, "lean(23, 0, 11)", "0 1 2 11 15 18 21 23")
            .gives(472, "lean(24, 0, 11)", "0 1 2 3 4 5 12 18 24");
    }

    @Says(in = "3. SEARCHES", words = "the least number of MARKS of a RULER of that LENGTH that is FULL or PERFECT")
    static void fewestIsTheLeast() {
        int[] marks = {1, 2, 3, 3, 4, 4, 4, 5, 5, 5, 6, 6, 6, 6, 7, 7, 7, 7, 8, 8, 8, 8, 8, 8, 9};
        for (int n = 0; n <= 24; n++) {
            given().gives(marks[n], "fewest(" + n + ")");
        }
    }

    @Says(in = "3. SEARCHES",
        words = "LEAN of n: all of these with so many MARKS, each that is its own FORM, in ORDER, from 0")
    static void leanInOrder() {
        String[] four = {"0 1 2 4", "0 1 3 4"};
        String[] five = {"0 1 2 5", "0 1 3 5"};
        String[] eight = {"0 1 2 5 8", "0 1 3 7 8", "0 1 4 6 8", "0 1 5 6 8"};
        for (int i = 0; i < 2; i++) {
            given().gives(2, "lean(4, " + i + ", 11)", four[i]).gives(2, "lean(5, " + i + ", 11)", five[i]);
        }
        for (int i = 0; i < 4; i++) {
            given().gives(4, "lean(8, " + i + ", 11)", eight[i]);
        }
    }

    @Says(in = "Promise 27", words = "FEWEST (5).")
    static void fewestOfNoneSuch() {
        given().refuses(5, "fewest(-1)", "fewest(25)", "fewest(MIN)", "fewest(MAX)").gives(1, "fewest(0)")
            .gives(9, "fewest(24)");
    }

    @Says(in = "Promise 28", words = "LEAN i comes to a SHELF (2, 5; 9): how many there are.")
    static void leanOfNoneSuch() {
        refusesNoShelf("lean(6, 0, #)");
        given().refuses(5, "lean(-1, 0, 11)", "lean(25, 0, 11)", "lean(MIN, 0, 0)", "lean(MAX, 0, 2)");
        given().gives(1, "lean(6, 0, 0)", "0 1 4 6").gives(1, "lean(6, 0, 15)", "0 1 4 6")
            .gives(1, "lean(6, 0, 2)", "0 1 4 6");
        given().refuses(9, "lean(24, MIN, 0)", "lean(24, MAX, 2)");
    }

    @Says(in = "4. STATUS", words = "9 one too many (or none is left)")
    static void leanThatIsNone() {
        long[] many = {1, 1, 1, 1, 2, 2, 1, 6, 4, 2, 19, 15, 7, 3, 65, 40, 16, 6, 250, 163, 75, 33, 9, 2, 472};
        for (int n = 0; n <= 24; n++) {
            numbered("lean(" + n + ", #, 11)", (int) many[n], many[n]);
        }
    }

    // ---- RINGS.

    @Says(in = "3. SEARCHES", words = "RINGS of n and m (n from 2 to 40, m from 1 to 6)")
    static void ringsOf2To40() {
        given().refuses(5, "rings(1, 1, 0, 11)", "rings(41, 1, 0, 11)", "rings(31, 0, 0, 11)", "rings(31, 7, 0, 11)",
            "rings(1, 2, 0, 11)",
            "rings(41, 6, 0, 11)");
        given().gives(1, "rings(2, 1, 0, 11)", "0 / 2").gives(1, "rings(3, 1, 0, 11)", "0 / 3")
            .gives(1, "rings(39, 1, 0, 11)", "0 / 39")
            .gives(1, "rings(40, 1, 0, 11)", "0 / 40");
        given().gives(1, "rings(31, 1, 0, 11)", "0 / 31").gives(1, "rings(31, 2, 0, 11)", "0 1 / 31")
            .gives(1, "rings(31, 6, 0, 11)", "0 1 3 8 12 18 / 31");
        given().gives(25, "rings(40, 6, 0, 11)").gives(25, "rings(40, 6, 24, 11)", "0 1 4 6 18 33 / 40");
    }

    @Says(in = "3. SEARCHES", words = "all RINGS of ROUND n and m MARKS, each that is its own FORM, in ORDER, from 0")
    static void ringsInOrder() {
        String[] two = {"0 1 / 12", "0 2 / 12", "0 3 / 12", "0 4 / 12"};
        String[] three = {"0 1 3 / 12", "0 1 4 / 12", "0 1 5 / 12"};
        for (int i = 0; i < two.length; i++) {
            given().gives(two.length, "rings(12, 2, " + i + ", 11)", two[i]);
        }
        for (int i = 0; i < three.length; i++) {
            given().gives(three.length, "rings(12, 3, " + i + ", 11)", three[i]);
        }
        given().refuses(9, "rings(2, 2, 0, 11)", "rings(6, 3, 0, 11)", "rings(12, 4, 0, 11)", "rings(20, 5, 0, 11)",
            "rings(30, 6, 0, 11)");
        given().gives(1, "rings(3, 2, 0, 11)", "0 1 / 3").gives(1, "rings(7, 3, 0, 11)", "0 1 3 / 7")
            .gives(1, "rings(13, 4, 0, 11)", "0 1 3 9 / 13")
            .gives(1, "rings(21, 5, 0, 11)", "0 1 4 14 16 / 21");
    }

    @Says(in = "Promise 29",
        words = "RING i of a ROUND and so many MARKS comes to a SHELF (2, 5; 9): how many there are.")
    static void ringsOfNoneSuch() {
        refusesNoShelf("rings(7, 3, 0, #)");
        given().refuses(5, "rings(1, 1, 0, 11)", "rings(0, 1, 0, 11)", "rings(-7, 3, 0, 11)", "rings(MIN, 1, 0, 11)",
            "rings(41, 1, 0, 0)",
            "rings(MAX, 1, 0, 2)", "rings(7, 0, 0, 11)", "rings(7, -3, 0, 11)", "rings(7, 7, 0, 11)",
            "rings(7, MIN, 0, 11)", "rings(7, MAX, 0, 11)");
        given().gives(1, "rings(7, 3, 0, 0)", "0 1 3 / 7").gives(1, "rings(7, 3, 0, 15)", "0 1 3 / 7");
        numbered("rings(2, 1, #, 11)", 1, 1L);
        numbered("rings(12, 2, #, 11)", 4, 4L);
        numbered("rings(40, 6, #, 11)", 25, 25L);
        given().refuses(9, "rings(12, 2, MIN, 0)", "rings(12, 2, MAX, 2)", "rings(2, 2, 0, 11)", "rings(2, 2, -1, 11)",
            "rings(2, 6, 0, 11)");
    }

    // ---- CASES.

    @Says(in = "3. SEARCHES", words = "CASES of m and n (m from 2 to 6, n from 1 to 20)")
    static void casesOf2To6() {
        given().refuses(5, "cases(1, 5, 0)", "cases(7, 5, 0)", "cases(2, 0, 0)", "cases(2, 21, 0)");
        given().gives(6, "cases(2, 5, 0)").gives(22, "cases(3, 6, 0)").gives(642, "cases(6, 16, 0)");
        given().gives(2, "cases(2, 1, 0)").gives(3, "cases(2, 2, 0)").gives(20, "cases(2, 19, 0)")
            .gives(21, "cases(2, 20, 0)");
        given().gives(1, "cases(6, 1, 0)").gives(4816, "cases(6, 20, 0)").gives(126, "cases(6, 20, 1)");
    }

    @Says(in = "3. SEARCHES", words = "begun is the row of 0 alone, a CASE")
    static void caseOf0Alone() {
        given().gives(1, "cases(3, 1, 0)").gives(0, "cases(3, 1, 1)").gives(1, "cases(6, 1, 0)")
            .gives(0, "cases(6, 1, 1)");
    }

    @Says(in = "3. SEARCHES",
        words = "A CASE of k MARKS, the last one x, is CLOSED, if a length is measured twice in it")
    static void caseWithALengthTwice() {
        // 0 1 2 would go on to 0 1 2 3 and so on, if it were not CLOSED.
        given().gives(25, "cases(4, 6, 0)").gives(2, "cases(4, 6, 1)");
    }

    @Says(in = "3. SEARCHES",
        words = "or if x and the sum of the m - k least lengths above 0 that it does not measure is above n")
    static void caseWithoutRoom() {
        // Of 0 alone, the sum of the m - 1 least lengths is 1, 3, 6, 10 or 15.
        given().gives(1, "cases(3, 2, 0)").gives(7, "cases(3, 3, 0)").gives(1, "cases(4, 5, 0)")
            .gives(25, "cases(4, 6, 0)");
        given().gives(1, "cases(5, 9, 0)").gives(1, "cases(6, 14, 0)").gives(2, "cases(2, 1, 0)");
        Given.check("cases(5, 10, 0) is above 1", (Long) new Bench().call("cases(5, 10, 0)") > 1, true);
        Given.check("cases(6, 15, 0) is above 1", (Long) new Bench().call("cases(6, 15, 0)") > 1, true);
    }

    @Says(in = "3. SEARCHES", words = "or if k is m")
    static void caseOfAllMarks() {
        given().gives(6, "cases(2, 5, 0)").gives(5, "cases(2, 5, 1)").gives(21, "cases(2, 20, 0)")
            .gives(20, "cases(2, 20, 1)");
    }

    @Says(in = "3. SEARCHES",
        words = "One that is not CLOSED is gone on from with each next MARK y from x + 1 to n, each a CASE")
    static void caseGoesOn() {
        // 0; 0 1, 0 2, 0 3; 0 1 2, 0 1 3; 0 2 3.
        given().gives(7, "cases(3, 3, 0)").gives(2, "cases(3, 3, 1)");
        // 0; 0 1 to 0 4; 0 1 2, 0 1 3, 0 1 4; 0 2 3, 0 2 4; 0 3 4.
        given().gives(11, "cases(3, 4, 0)").gives(4, "cases(3, 4, 1)");
    }

    @Says(in = "3. SEARCHES", words = "and how many are of m MARKS without a length twice")
    static void casesWithoutALengthTwice() {
        given().gives(0, "cases(3, 2, 1)").gives(2, "cases(3, 3, 1)").gives(0, "cases(4, 5, 1)")
            .gives(2, "cases(4, 6, 1)");
        given().gives(0, "cases(5, 10, 1)").gives(4, "cases(5, 11, 1)").gives(0, "cases(6, 16, 1)")
            .gives(8, "cases(6, 17, 1)");
    }

    @Says(in = "Promise 30", words = "CASES (5), what 0: in all, 1: those of so many MARKS without a length twice.")
    static void casesOfNoneSuch() {
        given().refuses(5, "cases(1, 1, 0)", "cases(0, 1, 0)", "cases(MIN, 1, 0)", "cases(7, 20, 0)",
            "cases(MAX, 1, 0)", "cases(6, 0, 1)",
            "cases(6, -1, 1)", "cases(6, MIN, 1)", "cases(6, 21, 1)", "cases(6, MAX, 1)");
        given().refuses(5, "cases(3, 3, -1)", "cases(3, 3, 2)", "cases(3, 3, MIN)", "cases(3, 3, MAX)");
        given().gives(7, "cases(3, 3, 0)").gives(2, "cases(3, 3, 1)");
    }

    // ---- APART.

    @Says(in = "3. SEARCHES", words = "APART are RULERS (no RINGS), each SPARSE or PERFECT")
    static void apartOfAKind() {
        given("11 = 0 6 12", "12 = 0 20 21 41").gives(0, "apart(2048)").gives(0, "apart(4096)").gives(0, "apart(2)")
            .gives(0, "apart(1024)");
        given().gives(1, "apart(1)").gives(1, "apart(256)").gives(1, "apart(32)").gives(1, "apart(64)")
            .refuses(8, "apart(4)", "apart(128)");
    }

    @Says(in = "3. SEARCHES", words = "no two of which MEASURE one length")
    static void apartInLengths() {
        given("11 = 0 1 4", "12 = 0 2 7", "13 = 0 4 10", "14 = 0 7 1000").gives(1, "apart(6144)")
            .gives(0, "apart(10240)")
            .gives(0, "apart(20480)").gives(0, "apart(16448)").gives(1, "apart(6176)").gives(1, "apart(6208)")
            .gives(1, "apart(12288)");
        given("11 = 0").gives(1, "apart(2080)").gives(1, "apart(2081)");
        given("11 = 0 1000", "12 = 0 999").gives(0, "apart(2112)").gives(1, "apart(4160)").gives(0, "apart(6208)");
    }

    @Says(in = "Promise 31", words = "5: below 0, above 65,535")
    static void apartOfNoSet() {
        given().refuses(5, "apart(-1)", "apart(MIN)", "apart(65536)", "apart(65537)", "apart(MAX)")
            .refuses(4, "apart(65535)");
        given().gives(1, "apart(0)").gives(1, "apart(1)").gives(1, "apart(32768)");
        given("0 = 0 1", "1 = 0 2", "2 = 0 3", "3 = 0 4", "4 = 0 5", "5 = 0 6", "6 = 0 7", "7 = 0 8", "8 = 0 9",
            "9 = 0 10",
            "10 = 0 11", "11 = 0 12", "12 = 0 13", "13 = 0 14", "14 = 0 15", "15 = 0 16").gives(1, "apart(65535)")
            .gives(1, "apart(65534)");
        given("0 = 0 1", "1 = 0 2", "2 = 0 3", "3 = 0 4", "4 = 0 5", "5 = 0 6", "6 = 0 7", "7 = 0 8", "8 = 0 9",
            "9 = 0 10",
            "10 = 0 11", "11 = 0 12", "12 = 0 13", "13 = 0 14", "14 = 0 15", "15 = 0 1").gives(0, "apart(65535)")
            .gives(1, "apart(65534)")
            .gives(1, "apart(32767)").gives(0, "apart(32769)");
    }

    @Says(in = "Promise 31", words = "4: a SHELF of the set has nothing; 8: a RING; asked in this order")
    static void apartInOrder() {
        given().refuses(4, "apart(2048)", "apart(16384)", "apart(2049)", "apart(2052)", "apart(18432)")
            .refuses(8, "apart(4)", "apart(5)", "apart(128)");
        given("15 = 0 1 / 9").refuses(4, "apart(34816)", "apart(65535)")
            .refuses(8, "apart(32768)", "apart(32769)", "apart(32770)");
        given("ring(0, 7)").refuses(8, "apart(1)", "apart(3)").refuses(4, "apart(2049)").gives(0, "apart(2)");
        given().refuses(8, "apart(6)", "apart(1036)");
    }

    @Says(in = "Promise 31", words = "a set of SHELVES (bit k for SHELF k)")
    static void apartOfEachShelf() {
        for (int k = 0; k < Bench.SHELVES; k++) {
            String call = "apart(" + (1 << k) + ")";
            Bench bench = new Bench();
            Given.check(call + " with nothing", bench.call(call), -1L);
            Given.check(call + " with nothing, STATUS", bench.status(), 4L);
            given(k + " = 0 6").gives(1, call);
            given(k + " = 0 6 12").gives(0, call);
            given(k + " = 0 6 / 13").refuses(8, call);
        }
    }

    // ---- GANG.

    @Says(in = "3. SEARCHES", words = "GANG of r and m (r from 1 to 3, m from 2 to 4; not 3 and 4)")
    static void gangOf1To3() {
        given().refuses(5, "gang(0, 2, 0, 11)", "gang(4, 2, 0, 11)", "gang(1, 1, 0, 11)", "gang(1, 5, 0, 11)",
            "gang(3, 4, 0, 11)", "gang(3, 4, 2, 11)",
            "gang(3, 5, 0, 11)", "gang(2, 5, 0, 11)", "gang(3, 1, 0, 11)", "gang(4, 4, 0, 11)", "gang(0, 4, 0, 11)");
        given().gives(1, "gang(1, 2, 0, 11)", "0 1").gives(3, "gang(3, 2, 2, 11)", "0 3")
            .gives(10, "gang(3, 3, 0, 11)", "0 1 5")
            .gives(13, "gang(2, 4, 0, 11)", "0 1 10 13").gives(6, "gang(1, 4, 0, 11)", "0 1 4 6");
    }

    @Says(in = "3. SEARCHES",
        words = "those whose greatest LENGTH is least; of these the first by their MARKS, RULER by RULER")
    static void gangIsTheFirst() {
        String[][] rows = {{"0 1"}, {"0 1 3"}, {"0 1 4 6"}, {"0 1", "0 2"}, {"0 1 4", "0 2 7"}, {"0 1 10 13",
            "0 4 6 11"},
            {"0 1", "0 2", "0 3"}, {"0 1 5", "0 2 8", "0 3 10"}};
        long[] greatest = {1, 3, 6, 2, 7, 13, 3, 10};
        for (int n = 0; n < rows.length; n++) {
            for (int k = 0; k < rows[n].length; k++) {
                String call = "gang(" + rows[n].length + ", " + rows[n][0].split(" ").length + ", " + k + ", 11)";
                given().gives(greatest[n], call, rows[n][k]);
            }
        }
    }

    @Says(in = "Promise 32", words = "GANG: RULER k of it (0 to r - 1, else 5)")
    static void gangRulerThatIsNone() {
        given().refuses(5, "gang(1, 2, -1, 11)", "gang(1, 2, 1, 11)", "gang(2, 3, 2, 11)", "gang(2, 3, -1, 2)",
            "gang(3, 3, 3, 0)",
            "gang(3, 3, MIN, 0)", "gang(3, 3, MAX, 0)");
        given().gives(1, "gang(1, 2, 0, 11)").gives(7, "gang(2, 3, 0, 11)", "0 1 4")
            .gives(7, "gang(2, 3, 1, 11)", "0 2 7");
        given().gives(10, "gang(3, 3, 2, 2)", "0 3 10");
    }

    @Says(in = "Promise 32", words = "comes to a SHELF (2, 5): the greatest LENGTH.")
    static void gangOfNoneSuch() {
        refusesNoShelf("gang(2, 3, 0, #)");
        given().refuses(5, "gang(MIN, 2, 0, 11)", "gang(MAX, 2, 0, 11)", "gang(1, MIN, 0, 11)", "gang(1, MAX, 0, 11)",
            "gang(-1, 2, 0, 0)");
        given().gives(7, "gang(2, 3, 0, 0)", "0 1 4").gives(7, "gang(2, 3, 1, 15)", "0 2 7")
            .gives(7, "gang(2, 3, 1, 2)", "0 2 7");
    }

    // ---- LINES, POWERS.

    @Says(in = "3. SEARCHES", words = "LINES of a prime p (2, 3, 5, 7, 11, 13, 17, 19)")
    static void linesOfPrimes() {
        for (int p : new int[] {2, 3, 5, 7, 11, 13, 17, 19}) {
            given().gives(true, "lines(" + p + ", 11)");
            given("lines(" + p + ", 11)").gives(p + 1, "tell(11, 1)").gives(p * p + p + 1, "tell(11, 3)")
                .gives(0, "lacks(11)").gives(5, "tell(11, 0)");
        }
        for (int p : new int[] {-2, -1, 0, 1, 4, 6, 8, 9, 10, 12, 14, 15, 16, 18, 20, 21, 22, 23}) {
            given().refuses(5, "lines(" + p + ", 11)");
        }
    }

    @Says(in = "3. SEARCHES", words = "the numbers i from 0 to p p + p for which power i of t has nothing of t t")
    static void linesMarks() {
        given().gives(true, "lines(2, 11)", "0 1 3 / 7").gives(true, "lines(3, 11)", "0 1 3 9 / 13")
            .gives(true, "lines(5, 11)", "0 1 3 8 12 18 / 31").gives(true, "lines(7, 11)", "0 1 3 13 32 36 43 52 / 57")
            .gives(true, "lines(19, 11)",
            "0 1 3 43 49 63 110 115 122 131 139 149 226 257 290 301 327 331 346 359 / 381");
    }

    @Says(in = "Promise 33", words = "LINES (2; 5: another p) come to a SHELF.")
    static void linesOfNoneSuch() {
        refusesNoShelf("lines(3, #)");
        given().refuses(5, "lines(MIN, 11)", "lines(MAX, 11)", "lines(1, 0)", "lines(23, 2)", "lines(20, 11)");
        given().gives(true, "lines(3, 0)", "0 1 3 9 / 13").gives(true, "lines(3, 15)", "0 1 3 9 / 13")
            .gives(true, "lines(19, 2)");
    }

    @Says(in = "3. SEARCHES", words = "POWERS of p (the same, without 2)")
    static void powersOfPrimes() {
        for (int p : new int[] {3, 5, 7, 11, 13, 17, 19}) {
            given().gives(true, "powers(" + p + ", 11)");
            given("powers(" + p + ", 11)").gives(p, "tell(11, 1)").gives(p * p - 1, "tell(11, 3)")
                .gives(p + 1, "lacks(11)").gives(5, "tell(11, 0)");
        }
        for (int p : new int[] {-3, -2, -1, 0, 1, 2, 4, 6, 8, 9, 10, 12, 14, 15, 16, 18, 20, 21, 22, 23}) {
            given().refuses(5, "powers(" + p + ", 11)");
        }
    }

    @Says(in = "3. SEARCHES", words = "the numbers i from 0 to p p - 2 for which power i of t has 1 times t")
    static void powersMarks() {
        given().gives(true, "powers(3, 11)", "0 1 6 / 8").gives(true, "powers(5, 11)", "0 1 14 16 21 / 24")
            .gives(true, "powers(7, 11)", "0 1 4 10 30 35 37 / 48")
            .gives(true, "powers(19, 11)", "0 1 5 15 46 49 71 107 123 134 196 198 217 224 293 310 322 328 352 / 360");
    }

    @Says(in = "Promise 34", words = "POWERS (2; 5: another p) come to a SHELF.")
    static void powersOfNoneSuch() {
        refusesNoShelf("powers(3, #)");
        given().refuses(5, "powers(MIN, 11)", "powers(MAX, 11)", "powers(2, 0)", "powers(23, 2)", "powers(20, 11)");
        given().gives(true, "powers(3, 0)", "0 1 6 / 8").gives(true, "powers(3, 15)", "0 1 6 / 8")
            .gives(true, "powers(3, 2)", "0 1 6 / 8");
    }
}
