import java.lang.reflect.InvocationTargetException;
import java.lang.reflect.Method;
import java.util.HashMap;
import java.util.Map;

/** A RulerBench that is called by text, as in "cut(1, 0)", and that shows all that can be seen of it. */
final class Bench {
    static final int STICKS = 6;
    static final int SHELVES = 16;
    /** What an object answers after so many calls is free. */
    private static final int MOST_CALLS = 512;
    private static final Map<String, Method> METHODS = new HashMap<>();

    static {
        for (Method method : RulerBench.class.getDeclaredMethods()) {
            METHODS.put(method.getName(), method);
        }
    }

    private final RulerBench bench = new RulerBench();
    private int calls = 0;

    static String nameOf(String call) {
        return call.substring(0, call.indexOf('('));
    }

    static String[] argumentsOf(String call) {
        String inside = call.substring(call.indexOf('(') + 1, call.indexOf(')')).trim();
        return inside.isEmpty() ? new String[0] : inside.split("\\s*,\\s*");
    }

    /** MIN and MAX stand for the least and the greatest int. */
    private static Object argument(String text, Class<?> type) {
        if (type == long.class) {
            return Long.parseLong(text);
        }
        return text.equals("MIN") ? Integer.MIN_VALUE : text.equals("MAX") ? Integer.MAX_VALUE : Integer.parseInt(text);
    }

    /** What the call answers: a Long (of an int too) or a Boolean, or else the text of what was thrown. */
    Object call(String text) {
        calls++;
        if (calls > MOST_CALLS) {
            throw new IllegalStateException("the test makes too many calls, at " + text);
        }
        Method method = METHODS.get(nameOf(text));
        String[] told = argumentsOf(text);
        Object[] given = new Object[told.length];
        for (int i = 0; i < told.length; i++) {
            given[i] = argument(told[i], method.getParameterTypes()[i]);
        }
        try {
            Object answer = method.invoke(bench, given);
            return answer instanceof Number number ? (Object) number.longValue() : answer;
        } catch (InvocationTargetException thrown) {
            return "thrown: " + thrown.getCause();
        } catch (IllegalAccessException wrong) {
            throw new IllegalStateException(wrong);
        }
    }

    private long number(String call, int a, int b) {
        Object answer = call(call + "(" + a + ", " + b + ")");
        return answer instanceof Long number ? number : Long.MIN_VALUE;
    }

    long status() {
        return (Long) call("status()");
    }

    /** Lays "0 1 3", or a RING "0 1 3 / 7", on a SHELF by way of STICK 4, which is MISSING then. */
    void lay(int shelf, String text) {
        String[] parts = text.split(" / ");
        fill(4, 2, parts[0]);
        boolean laid = !call("ruler(" + shelf + ", 4, " + parts[0].split(" ").length + ")").equals(-1L);
        if (parts.length > 1) {
            laid &= call("ring(" + shelf + ", " + parts[1] + ")").equals(true);
        }
        call("drop(4)");
        if (!laid) {
            throw new IllegalStateException("the test can't lay " + text);
        }
    }

    void fill(int stick, int kind, String text) {
        String[] numbers = text.split(" ");
        call("stick(" + stick + ", " + kind + ", " + numbers.length + ")");
        for (int i = 0; i < numbers.length; i++) {
            call("put(" + stick + ", " + i + ", " + numbers[i] + ")");
        }
    }

    /** The MARKS, and the ROUND of a RING behind a stroke; "-" for nothing. */
    String shownShelf(int shelf) {
        long many = number("tell", shelf, 1);
        if (many < 0) {
            return status() == 4 ? "-" : "no such SHELF";
        }
        StringBuilder text = new StringBuilder();
        for (int i = 0; i < many; i++) {
            text.append(i == 0 ? "" : " ").append(number("mark", shelf, i));
        }
        long round = number("tell", shelf, 3);
        return round == 0 ? text.toString() : text + " / " + round;
    }

    /** The bits and the numbers: "8: 0 1 3"; "0 numbers" (whose bits can't be seen); "-" for MISSING. */
    String shownStick(int stick) {
        StringBuilder text = new StringBuilder();
        int many = 0;
        long at = number("number", stick, 0);
        while (at != -1 || status() == 0) {
            text.append(' ').append(at);
            many++;
            at = number("number", stick, many);
        }
        if (status() == 3) {
            return "-";
        }
        return many == 0 ? "0 numbers" : bits(stick) + ":" + text;
    }

    /** Puts a number with bits high up, to see what is left of it, and then puts back what was there. */
    private int bits(int stick) {
        long before = number("number", stick, 0);
        call("put(" + stick + ", 0, " + ((1L << 40) + (1L << 20) + 1) + ")");
        long left = number("number", stick, 0);
        call("put(" + stick + ", 0, " + before + ")");
        return left == 1 ? 8 : left == (1L << 20) + 1 ? 32 : 64;
    }

    /** All STICKS, then all SHELVES. */
    String[] shown() {
        String[] all = new String[STICKS + SHELVES];
        for (int i = 0; i < STICKS; i++) {
            all[i] = "STICK " + i + " " + shownStick(i);
        }
        for (int i = 0; i < SHELVES; i++) {
            all[STICKS + i] = "SHELF " + i + " " + shownShelf(i);
        }
        return all;
    }
}
