/** What the tests by sentence have in common. In a call, # stands for the STICK or SHELF that is tried. */
abstract class Sentences {
    private static final String[] NO_STICKS = {"-1", "6", "MIN", "MAX"};
    private static final String[] NO_SHELVES = {"-1", "16", "MIN", "MAX"};
    /** SHELVES of a furnished bench that have nothing. */
    private static final String[] EMPTY_SHELVES = {"11", "14"};

    static Given given(String... first) {
        return new Given(first);
    }

    static void refusesNoStick(String... calls) {
        refuses(1, NO_STICKS, calls);
    }

    static void refusesNoShelf(String... calls) {
        refuses(2, NO_SHELVES, calls);
    }

    static void refusesNothing(String... calls) {
        refuses(4, EMPTY_SHELVES, calls);
    }

    private static void refuses(int status, String[] tried, String... calls) {
        Given bench = given();
        for (String call : calls) {
            for (String number : tried) {
                bench.refuses(status, call.replace("#", number));
            }
        }
    }
}
