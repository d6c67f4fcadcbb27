/** Sections 1 and 4: how long an object is used, which STATUS comes first where several hold, what a call leaves. */
final class StatusBounds extends Sentences {
    private StatusBounds() {
    }

    @Says(in = "1.", words = "An object is used for at most 512 calls after it has been made")
    static void call512() {
        Bench bench = new Bench();
        bench.call("best(7, 4, 15)");
        for (int turns = 1; turns <= 255; turns++) {
            bench.call("turn(15, 15)");
            Given.check("MARK 1 after " + turns + " turns", bench.call("mark(15, 1)"), turns % 2 == 0 ? 2L : 3L);
        }
        Given.check("call 512", bench.call("form(15, 0)"), 0L);
    }

    @Says(in = "4. STATUS", words = "of a call is the first of these that holds: 1 no such STICK.")
    static void noStickIsFirst() {
        given().refuses(1, "stick(6, 3, 25)", "stick(-1, 0, -1)", "put(6, -1, 1)", "number(6, -1)", "cut(6, -1)",
            "cut(-1, 25)");
        given().refuses(1, "ruler(16, 6, 1)", "ruler(-1, -1, 0)", "ruler(11, 6, 0)", "ruler(11, 6, 25)");
    }

    @Says(in = "4. STATUS", words = "2 no such SHELF.")
    static void noShelfIsSecond() {
        given().refuses(2, "ruler(16, 5, 1)", "ruler(16, 0, 0)", "ruler(16, 0, 4)", "ruler(16, 3, 3)");
        given().refuses(2, "ring(16, 1)", "tell(16, 4)", "mark(16, -1)", "measures(16, 0)", "add(16, 0)",
            "take(16, -1)");
        given().refuses(2, "turn(11, 16)", "turn(16, 11)", "form(11, 16)", "form(16, 11)", "alike(11, 16)",
            "alike(16, 11)");
        given().refuses(2, "factor(11, 2, 16)", "factor(2, 0, 16)", "factor(0, 2, 16)", "factor(16, 0, 0)",
            "factor(2, 7, 16)");
        given().refuses(2, "open(11, 0, 0, 16)", "open(2, -1, 0, 16)", "open(2, 0, -1, 16)", "open(0, 0, 0, 16)",
            "open(16, -1, -1, 0)");
        given().refuses(2, "best(0, 0, 16)", "best(5, 2, 16)", "lean(25, 0, 16)", "lean(6, 1, 16)",
            "rings(1, 0, 0, 16)", "rings(7, 3, 1, -1)");
        given().refuses(2, "gang(4, 0, 0, 16)", "gang(2, 3, 2, 16)", "gang(3, 4, 0, -1)", "lines(4, 16)",
            "powers(2, -1)");
    }

    @Says(in = "4. STATUS", words = "3 the STICK is MISSING.")
    static void missingIsThird() {
        given().refuses(3, "put(5, -1, 1)", "put(4, 24, 1)", "number(5, -1)", "number(4, 24)", "cut(5, -1)",
            "cut(4, 25)");
        given().refuses(3, "ruler(11, 5, 0)", "ruler(11, 4, 25)", "ruler(11, 4, -1)");
    }

    @Says(in = "4. STATUS", words = "4 nothing on the SHELF.")
    static void nothingIsFourth() {
        given().refuses(4, "ring(11, 1)", "ring(11, 401)", "tell(11, 4)", "tell(11, -1)", "mark(11, -1)",
            "measures(11, 0)", "add(11, 0)", "add(11, 1001)");
        given().refuses(4, "take(11, -1)", "factor(11, 0, 0)", "factor(11, 401, 0)", "factor(11, 1, 0)",
            "open(11, -1, 0, 0)", "open(11, 0, -1, 0)");
    }

    @Says(in = "4. STATUS", words = "5 a number that can't be.")
    static void numberIsFifth() {
        given().refuses(5, "ring(1, 401)", "ring(1, 9)", "ring(0, 1)", "ring(10, 2)", "ring(2, 3)");
        given().refuses(5, "add(2, 0)", "add(2, 1001)", "add(3, 0)", "add(3, 1001)", "add(0, 0)", "add(7, 0)");
        given().refuses(5, "factor(0, 0, 11)", "factor(0, 401, 11)", "factor(4, 0, 11)", "open(0, 3, 0, 11)",
            "open(0, 0, -1, 11)", "open(5, 1, 0, 11)");
        given().refuses(5, "best(0, -1, 11)", "best(8, 9, 11)", "lean(-1, -1, 11)", "lean(25, 999, 11)",
            "rings(1, 1, 1, 11)", "rings(41, 6, -1, 11)", "rings(12, 7, -1, 11)");
        given().refuses(5, "ruler(11, 3, 0)", "ruler(11, 3, -1)");
    }

    @Says(in = "4. STATUS", words = "6 a place, or so many, that the STICK has not. 7 the numbers do not rise")
    static void placeIsBeforeRise() {
        given().refuses(6, "ruler(11, 3, 4)", "ruler(11, 3, 25)").refuses(7, "ruler(11, 3, 3)");
        given("put(3, 1, 9999)").refuses(6, "ruler(11, 3, 4)").refuses(7, "ruler(11, 3, 2)");
    }

    @Says(in = "4. STATUS",
        words = "8 the RULER is another than is wanted: a RING, or none, or one with a length twice.")
    static void otherRulerIsBeforeOneTooMany() {
        given().refuses(8, "add(2, 1)", "add(2, 3)", "take(2, 2)", "take(7, 0)", "take(7, 1)", "take(4, -1)",
            "grow(3)", "grow(2)");
    }

    @Says(in = "4. STATUS", words = "9 one too many (or none is left); it is there already, or is not.")
    static void oneTooMany() {
        given().refuses(9, "add(0, 3)", "add(3, 24)", "take(0, 2)", "take(5, 0)", "grow(9)", "best(5, 2, 11)",
            "lean(6, 1, 11)", "rings(7, 3, 1, 11)");
    }

    @Says(in = "4. STATUS", words = "10 a failure that is none (fail()).")
    static void failureIs10() {
        given().refuses(10, "fail()");
    }

    @Says(in = "4. STATUS", words = "0 else.")
    static void else0() {
        String[] asks = {"number(0, 0)", "tell(0, 0)", "mark(0, 0)", "measures(0, 1)", "lacks(0)", "twice(0)",
            "alike(0, 1)", "shortest(3)", "many(3)",
            "fewest(3)", "cases(3, 3, 1)", "apart(1)"};
        long[] answers = {0, 4, 0, 1, 0, 0, 0, 3, 1, 3, 2, 1};
        for (int i = 0; i < asks.length; i++) {
            given().gives(answers[i], asks[i]);
        }
        given().gives(true, "stick(5, 0, 0)").gives(true, "drop(0)").gives(true, "put(0, 0, 0)")
            .gives(true, "cut(0, 0)").gives(4, "ruler(11, 0, 3)");
        given().gives(true, "ring(0, 7)").gives(2, "add(0, 2)").gives(3, "take(0, 0)").gives(7, "grow(0)")
            .gives(true, "turn(0, 11)");
        given().gives(1, "form(0, 11)").gives(true, "factor(2, 2, 11)").gives(4, "open(2, 0, 9, 11)")
            .gives(true, "best(3, 0, 11)");
        given().gives(1, "lean(3, 0, 11)").gives(1, "rings(7, 3, 0, 11)").gives(1, "gang(1, 2, 0, 11)")
            .gives(true, "lines(2, 11)").gives(true, "powers(3, 11)");
    }

    /** One after the other on one object: a refused call leaves nothing that a later one would see. */
    @Says(in = "4. STATUS", words = "A call with another STATUS than 0 gives NONE, or false, and changes nothing else.")
    static void refusedOneAfterTheOther() {
        Bench bench = new Bench();
        bench.fill(0, 0, "0 1 3");
        bench.lay(0, "0 1 3");
        bench.lay(2, "0 1 3 / 7");
        String before = String.join("; ", bench.shown());
        String[] calls = {"stick(0, 3, 1)", "stick(6, 0, 0)", "drop(1)", "drop(6)", "put(0, 3, 9)", "put(1, 0, 9)",
            "number(0, 3)", "cut(0, 4)",
            "cut(0, -1)", "fail()", "ruler(0, 0, 4)", "ruler(0, 0, 0)", "ruler(16, 0, 1)", "ring(0, 6)", "ring(0, 3)",
            "ring(1, 7)", "tell(0, 4)",
            "mark(0, 3)", "measures(0, 0)", "lacks(1)", "twice(1)", "add(0, 1)", "add(0, 0)", "add(2, 2)",
            "take(0, 2)", "take(2, 1)", "grow(2)",
            "grow(1)", "turn(1, 0)", "turn(0, 16)", "form(1, 0)", "form(0, 16)", "alike(0, 1)", "factor(2, 7, 0)",
            "factor(0, 2, 2)", "open(2, 3, 0, 0)",
            "open(0, 0, 0, 2)", "shortest(8)", "many(0)", "best(5, 2, 0)", "best(8, 0, 0)", "fewest(25)",
            "lean(6, 1, 0)", "lean(25, 0, 0)",
            "rings(7, 3, 1, 0)", "rings(1, 3, 0, 0)", "cases(7, 1, 0)", "apart(2)", "apart(4)", "apart(-1)",
            "gang(3, 4, 0, 0)", "lines(4, 0)",
            "powers(2, 0)"};
        for (String call : calls) {
            Object got = bench.call(call);
            Given.check(call, got, got instanceof Boolean ? (Object) false : (Object) (-1L));
            Given.check(call + ", STATUS above 0", bench.status() > 0, true);
        }
        Given.check("all in all", String.join("; ", bench.shown()), before);
    }

    @Says(in = "4. STATUS", words = "status() and those told so have none.")
    static void statusHasNone() {
        Bench bench = new Bench();
        String[] calls = {"fail()", "shortest(8)", "drop(0)", "tell(0, 0)", "stick(0, 0, 1)", "number(0, 1)"};
        long[] status = {10, 5, 3, 4, 0, 6};
        for (int i = 0; i < calls.length; i++) {
            bench.call(calls[i]);
            for (int times = 0; times < 3; times++) {
                Given.check("status() again after " + calls[i], bench.status(), status[i]);
            }
        }
    }
}
