import java.lang.reflect.InvocationTargetException;
import java.lang.reflect.Method;
import java.nio.file.Files;
import java.nio.file.Path;
import java.util.ArrayList;
import java.util.Comparator;
import java.util.List;
import java.util.TreeSet;

/**
 * Each sentence of the document that names a bound, or a refused call, by a test of its own: just inside, on it, just
 * outside. A refused call is looked at for all STICKS and SHELVES, which must be as they were, and for its STATUS.
 */
public final class BoundsTest {
    private static final List<Class<?>> TESTS =
        List.of(StickBounds.class, RulerBounds.class, SearchBounds.class, StatusBounds.class);
    /** The STATUS numbers that the document names for each call. */
    private static final String[] PROMISED = {
        "stick 1 5", "drop 1 3", "put 1 3 6", "number 1 3 6", "cut 1 3 5 6", "fail 10",
        "ruler 1 2 3 5 6 7", "ring 2 4 5 8", "tell 2 4 5", "mark 2 4 5", "measures 2 4 5", "lacks 2 4", "twice 2 4",
        "add 2 4 5 8 9", "take 2 4 8 9", "grow 2 4 7 8 9", "turn 2 4", "form 2 4", "alike 2 4", "factor 2 4 5 8",
        "open 2 4 5 8",
        "shortest 5", "many 5", "best 2 5 9", "fewest 5", "lean 2 5 9", "rings 2 5 9", "cases 5", "apart 4 5 8",
        "gang 2 5", "lines 2 5", "powers 2 5",
    };

    private BoundsTest() {
    }

    private static List<Method> tests() {
        List<Method> found = new ArrayList<>();
        for (Class<?> holder : TESTS) {
            List<Method> own = new ArrayList<>();
            for (Method method : holder.getDeclaredMethods()) {
                if (method.isAnnotationPresent(Says.class)) {
                    own.add(method);
                }
            }
            own.sort(Comparator.comparing(Method::getName));
            found.addAll(own);
        }
        return found;
    }

    private static String document() throws Exception {
        String shared = System.getenv("SHARED") == null ? "../shared" : System.getenv("SHARED");
        return Files.readString(Path.of(shared, "DOC.md")).replaceAll("\\s+", " ");
    }

    /** The part of the document from one heading to the next one. */
    private static String part(String document, String heading) {
        boolean numbered = Character.isDigit(heading.charAt(0));
        String mark = numbered ? "==== " + heading : "## " + heading + (heading.startsWith("Promise") ? ":" : "");
        int from = document.indexOf(mark) + mark.length();
        return document.substring(from).split("## |==== ", 2)[0];
    }

    private static void checkWords(Says says, String document) {
        Given.check("these words stand under " + says.in(), part(document, says.in()).contains(says.words()), true);
    }

    /** Each STATUS that the document names for a call was met, and none that it does not name. */
    private static void checkRefusals() {
        Given.begin("The STATUS numbers that the document names");
        TreeSet<String> due = new TreeSet<>();
        for (String row : PROMISED) {
            String[] words = row.split(" ");
            for (int i = 1; i < words.length; i++) {
                due.add(words[0] + " " + words[i]);
            }
        }
        Given.check("refused calls", Given.refusals(), due);
    }

    public static void main(String[] args) throws Exception {
        String document = document();
        List<Method> tests = tests();
        for (Method test : tests) {
            Says says = test.getAnnotation(Says.class);
            Given.begin(says.in() + ", \"" + says.words() + "\" (" + test.getName() + ")");
            checkWords(says, document);
            try {
                test.invoke(null);
            } catch (InvocationTargetException thrown) {
                Given.check("the test ends", thrown.getCause().toString(), "without a throw");
            }
        }
        checkRefusals();
        System.out.println(tests.size() + " sentences, " + Given.checks() + " checks, " + Given.wrong() + " wrong");
        System.exit(Given.wrong() == 0 ? 0 : 1);
    }
}
