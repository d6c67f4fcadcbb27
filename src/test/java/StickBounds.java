/** Section 2 and promises 1 to 8: each sentence that names a bound or a refused call. */
final class StickBounds extends Sentences {
    private static final String ZEROS_23 = " 0 0 0 0 0 0 0 0 0 0 0 0 0 0 0 0 0 0 0 0 0 0 0";
    private static final String TO_23 = " 0 1 2 3 4 5 6 7 8 9 10 11 12 13 14 15 16 17 18 19 20 21 22 23";

    private StickBounds() {
    }

    // ---- 2. STICKS.

    @Says(in = "2. STICKS", words = "There are six STICKS, 0 to 5")
    static void sixSticks() {
        Given each = given("stick(5, 0, 1)");
        for (String stick : new String[] {"0", "1", "2", "3", "4", "5"}) {
            each.gives(true, "stick(" + stick + ", 2, 1)", "64: 0");
        }
        each.gives(true, "put(5, 0, 7)", "8: 7").gives(0L, "number(5, 0)").gives(true, "cut(5, 0)", "0 numbers");
        each.gives(true, "drop(5)", "-").gives(4L, "ruler(11, 5, 1)", "0");
        each.gives(true, "put(0, 0, 7)", "8: 7 1 3").gives(0L, "number(0, 0)").gives(true, "cut(0, 1)", "8: 0");
        each.gives(true, "drop(0)", "-").gives(4L, "ruler(11, 0, 1)", "0");
    }

    @Says(in = "2. STICKS", words = "each MISSING at first or a row of 0 to 24 numbers")
    static void zeroTo24Numbers() {
        given().gives(true, "stick(5, 2, 0)", "0 numbers").gives(true, "stick(5, 2, 1)", "64: 0");
        given().gives(true, "stick(5, 1, 23)", "32:" + ZEROS_23).gives(true, "stick(5, 1, 24)", "32: 0" + ZEROS_23);
        given().refuses(5, "stick(5, 1, 25)", "stick(5, 1, -1)");
    }

    private static void cutTo(int kind, String given, String left) {
        Bench bench = new Bench();
        bench.call("stick(0, " + kind + ", 1)");
        Given.check("put of " + given + ", kind " + kind, bench.call("put(0, 0, " + given + ")"), true);
        Given.check("kind " + kind + " of " + given, bench.call("number(0, 0)"), Long.parseLong(left));
        Given.check("STATUS with " + given, bench.status(), 0L);
    }

    @Says(in = "2. STICKS", words = "of 8 bits (kind 0)")
    static void eightBits() {
        String[] same = {"0", "1", "-1", "126", "127", "-127", "-128"};
        for (String v : same) {
            cutTo(0, v, v);
        }
        cutTo(0, "128", "-128");
        cutTo(0, "129", "-127");
        cutTo(0, "255", "-1");
        cutTo(0, "256", "0");
        cutTo(0, "-129", "127");
        cutTo(0, "-256", "0");
        cutTo(0, "-257", "-1");
        cutTo(0, "2147483648", "0");
        cutTo(0, "9223372036854775807", "-1");
        cutTo(0, "-9223372036854775808", "0");
    }

    @Says(in = "2. STICKS", words = "32 (1)")
    static void thirtyTwoBits() {
        String[] same = {"128", "-129", "2147483646", "2147483647", "-2147483647", "-2147483648"};
        for (String v : same) {
            cutTo(1, v, v);
        }
        cutTo(1, "2147483648", "-2147483648");
        cutTo(1, "4294967295", "-1");
        cutTo(1, "4294967296", "0");
        cutTo(1, "-2147483649", "2147483647");
        cutTo(1, "-4294967297", "-1");
        cutTo(1, "9223372036854775807", "-1");
        cutTo(1, "-9223372036854775808", "0");
    }

    @Says(in = "2. STICKS", words = "64 (2); what is put is cut to these (with sign)")
    static void sixtyFourBits() {
        String[] same = {"128", "2147483648", "-2147483649", "9223372036854775806", "9223372036854775807",
            "-9223372036854775807", "-9223372036854775808", "-1"};
        for (String v : same) {
            cutTo(2, v, v);
        }
    }

    // ---- Promises 1 and 2.

    @Says(in = "Promise 1", words = "STICKS are MISSING")
    static void sticksMissingAtFirst() {
        Bench bench = new Bench();
        for (int i = 0; i < Bench.STICKS; i++) {
            Given.check("drop of STICK " + i, bench.call("drop(" + i + ")"), false);
            Given.check("STATUS of that", bench.status(), 3L);
            Given.check("STICK " + i, bench.shownStick(i), "-");
        }
    }

    @Says(in = "Promise 1", words = "nothing on the SHELVES")
    static void nothingOnTheShelvesAtFirst() {
        Bench bench = new Bench();
        for (int i = 0; i < Bench.SHELVES; i++) {
            Given.check("lacks of SHELF " + i, bench.call("lacks(" + i + ")"), -1L);
            Given.check("STATUS of that", bench.status(), 4L);
            Given.check("SHELF " + i, bench.shownShelf(i), "-");
        }
    }

    @Says(in = "Promise 1", words = "STATUS 0.")
    static void status0AtFirst() {
        Given.check("STATUS of a new object", new Bench().status(), 0L);
        Bench one = new Bench();
        one.call("fail()");
        Given.check("STATUS of another new object", new Bench().status(), 0L);
    }

    @Says(in = "Promise 2", words = "STATUS of the latest call that has one.")
    static void statusOfTheLatestCall() {
        Bench bench = new Bench();
        String[] calls = {"fail()", "drop(0)", "stick(0, 0, 2)", "put(0, 2, 1)", "ruler(16, 0, 1)", "tell(0, 0)",
            "shortest(0)", "best(1, 1, 0)", "ruler(0, 0, 2)", "stick(6, 0, 0)", "shortest(1)"};
        long[] status = {10, 3, 0, 6, 2, 4, 5, 9, 7, 1, 0};
        for (int i = 0; i < calls.length; i++) {
            bench.call(calls[i]);
            Given.check("STATUS of " + calls[i], bench.status(), status[i]);
        }
    }

    // ---- Promise 3: stick.

    @Says(in = "Promise 3", words = "A STICK is a row of so many 0s")
    static void stickHas0s() {
        given().gives(true, "stick(0, 0, 3)", "8: 0 0 0").gives(true, "stick(3, 1, 2)", "32: 0 0");
        given().gives(true, "stick(1, 2, 24)", "64: 0" + ZEROS_23).gives(true, "stick(2, 1, 2)", "32: 0 0");
        given("cut(1, 2)").gives(true, "stick(1, 1, 24)", "32: 0" + ZEROS_23);
        given("drop(1)").gives(true, "stick(1, 1, 24)", "32: 0" + ZEROS_23);
    }

    @Says(in = "Promise 3", words = "(1; 5: kind;")
    static void stickOfNoStick() {
        refusesNoStick("stick(#, 0, 1)");
    }

    @Says(in = "Promise 3", words = "5: kind;")
    static void stickOfAKind() {
        given().refuses(5, "stick(5, -1, 1)", "stick(5, 3, 1)", "stick(5, MIN, 1)", "stick(5, MAX, 1)",
            "stick(1, 3, 24)");
        given().gives(true, "stick(5, 0, 1)", "8: 0").gives(true, "stick(5, 1, 1)", "32: 0");
        given().gives(true, "stick(5, 2, 1)", "64: 0");
    }

    @Says(in = "Promise 3", words = "a number below 0 or above 24")
    static void stickOfSoMany() {
        given().refuses(5, "stick(5, 0, -1)", "stick(5, 0, 25)", "stick(5, 0, MIN)", "stick(5, 0, MAX)",
            "stick(1, 1, 25)");
        given().gives(true, "stick(1, 1, 0)", "0 numbers").gives(true, "stick(1, 1, 1)", "32: 0");
        given().gives(true, "stick(0, 0, 23)", "8:" + ZEROS_23).gives(true, "stick(0, 0, 24)", "8: 0" + ZEROS_23);
    }

    // ---- Promise 4: drop.

    @Says(in = "Promise 4", words = "A STICK is MISSING")
    static void dropped() {
        given().gives(true, "drop(0)", "-").gives(true, "drop(1)", "-").gives(true, "drop(2)", "-");
        given("drop(1)").refuses(3, "number(1, 0)", "put(1, 0, 5)", "cut(1, 0)", "drop(1)", "ruler(11, 1, 1)");
    }

    @Says(in = "Promise 4", words = "(1, 3)")
    static void dropOfNoneSuch() {
        refusesNoStick("drop(#)");
        given().refuses(3, "drop(4)", "drop(5)");
        given("stick(5, 0, 1)").gives(true, "drop(5)", "-");
    }

    // ---- Promise 5: put.

    @Says(in = "Promise 5", words = "(1, 3, 6)")
    static void putOnNoStick() {
        refusesNoStick("put(#, 0, 1)");
        given().refuses(3, "put(4, 0, 1)", "put(5, 0, 1)");
    }

    @Says(in = "Promise 5", words = "A number comes to a place of a STICK")
    static void putInAPlace() {
        given().refuses(6, "put(0, -1, 7)", "put(0, 3, 7)", "put(0, 4, 7)", "put(0, MIN, 7)", "put(0, MAX, 7)");
        given().gives(true, "put(0, 0, 7)", "8: 7 1 3").gives(true, "put(0, 1, 7)", "8: 0 7 3");
        given().gives(true, "put(0, 2, 7)", "8: 0 1 7");
        given().gives(true, "put(1, 23, 99)", "32:" + TO_23.replace(" 23", " 99")).refuses(6, "put(1, 24, 99)");
        given().refuses(6, "put(2, 0, 7)", "put(2, -1, 7)");
        given("cut(1, 2)").refuses(6, "put(1, 2, 7)", "put(1, 23, 7)").gives(true, "put(1, 1, 7)", "32: 0 7");
    }

    // ---- Promise 6: number.

    @Says(in = "Promise 6", words = "(1, 3, 6)")
    static void numberOfNoStick() {
        refusesNoStick("number(#, 0)");
        given().refuses(3, "number(4, 0)", "number(5, 0)");
    }

    @Says(in = "Promise 6", words = "The number in a place of a STICK")
    static void numberInAPlace() {
        given().refuses(6, "number(0, -1)", "number(0, 3)", "number(0, 4)", "number(0, MIN)", "number(0, MAX)");
        given().gives(0, "number(0, 0)").gives(1, "number(0, 1)").gives(3, "number(0, 2)");
        given().gives(23, "number(1, 23)").refuses(6, "number(1, 24)", "number(2, 0)", "number(2, -1)");
        given("cut(1, 2)").refuses(6, "number(1, 2)", "number(1, 23)").gives(1, "number(1, 1)");
    }

    @Says(in = "Promise 6", words = "STATUS tells NONE from -1")
    static void numberThatIsNone() {
        given("put(0, 1, -1)").gives(-1, "number(0, 1)").refuses(6, "number(0, 3)");
        given("put(0, 1, 255)").gives(-1, "number(0, 1)");
        given("put(3, 1, -1)").gives(-1, "number(3, 1)");
    }

    // ---- Promise 7: cut.

    @Says(in = "Promise 7", words = "(1, 3; 5: below 0;")
    static void cutOfNoStick() {
        refusesNoStick("cut(#, 0)");
        given().refuses(3, "cut(4, 0)", "cut(5, 0)");
    }

    @Says(in = "Promise 7", words = "A STICK has its first numbers alone, so many")
    static void cutToTheFirst() {
        given().gives(true, "cut(0, 1)", "8: 0").gives(true, "cut(0, 2)", "8: 0 1").gives(true, "cut(3, 2)", "64: 5 5");
        given("cut(0, 2)").refuses(6, "cut(0, 3)", "number(0, 2)").gives(true, "cut(0, 2)", "8: 0 1");
    }

    @Says(in = "Promise 7", words = "5: below 0")
    static void cutBelow0() {
        given().refuses(5, "cut(0, -1)", "cut(0, MIN)", "cut(2, -1)").gives(true, "cut(0, 0)", "0 numbers");
        given().gives(true, "cut(0, 1)", "8: 0").gives(true, "cut(2, 0)", "0 numbers");
    }

    @Says(in = "Promise 7", words = "6: more than it has")
    static void cutToMore() {
        given().refuses(6, "cut(0, 4)", "cut(0, 5)", "cut(0, MAX)", "cut(1, 25)", "cut(2, 1)");
        given().gives(true, "cut(0, 3)", "8: 0 1 3").gives(true, "cut(0, 2)", "8: 0 1");
        given().gives(true, "cut(1, 24)", "32:" + TO_23).gives(true, "cut(1, 23)", "32:" + TO_23.replace(" 23", ""));
    }

    // ---- Promise 8: fail.

    @Says(in = "Promise 8", words = "A failure that is none is thrown: false, STATUS 10.")
    static void failure() {
        given().refuses(10, "fail()");
        Given.check("fail() of a new object", new Bench().call("fail()"), false);
    }
}
