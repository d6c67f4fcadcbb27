import java.lang.reflect.InvocationTargetException;
import java.lang.reflect.Method;
import java.util.ArrayList;
import java.util.Comparator;
import java.util.List;
import java.util.TreeSet;

/**
 * Each sentence of the document by a test of its own. Where it names a bound: just inside, on it, just outside. A
 * refused call is looked at for all STICKS and SHELVES, which must be as they were, and for its STATUS. No word of the
 * document is left without a test, but those that promise nothing.
 */
public final class SentenceTest {
    private static final List<Class<?>> TESTS =
        List.of(Meanings.class, StickBounds.class, RulerBounds.class, SearchBounds.class, StatusBounds.class);
    /** The STATUS numbers that the document names for each call. */
    static final String[] PROMISED = {
        "stick 1 5", "drop 1 3", "put 1 3 6", "number 1 3 6", "cut 1 3 5 6", "fail 10",
        "ruler 1 2 3 5 6 7", "ring 2 4 5 8", "tell 2 4 5", "mark 2 4 5", "measures 2 4 5", "lacks 2 4", "twice 2 4",
        "add 2 4 5 8 9", "take 2 4 8 9", "grow 2 4 7 8 9", "turn 2 4", "form 2 4", "alike 2 4", "factor 2 4 5 8",
        "open 2 4 5 8",
        "shortest 5", "many 5", "best 2 5 9", "fewest 5", "lean 2 5 9", "rings 2 5 9", "cases 5", "apart 4 5 8",
        "gang 2 5", "lines 2 5", "powers 2 5",
    };

    private SentenceTest() {
    }

    private static List<Method> tests() {
        List<Method> found = new ArrayList<>();
        for (Class<?> holder : TESTS) {
            List<Method> own = new ArrayList<>();
            for (Method method : holder.getDeclaredMethods()) {
                if (method.isAnnotationPresent(Says.class)) {
                    own.add(method);
                }
            }
            own.sort(Comparator.comparing(Method::getName));
            found.addAll(own);
        }
        return found;
    }

    /** Each STATUS that the document names for a call was met, and none that it does not name. */
    private static void checkRefusals() {
        Given.begin("The STATUS numbers that the document names");
        TreeSet<String> due = new TreeSet<>();
        for (String row : PROMISED) {
            String[] words = row.split(" ");
            for (int i = 1; i < words.length; i++) {
                due.add(words[0] + " " + words[i]);
            }
        }
        Given.check("refused calls", Given.refusals(), due);
    }

    public static void main(String[] args) throws Exception {
        Document document = Document.read();
        List<Method> tests = tests();
        for (Method test : tests) {
            Says says = test.getAnnotation(Says.class);
            Given.begin(says.in() + ", \"" + says.words() + "\" (" + test.getName() + ")");
            Given.check("these words stand there", document.tells(says.in(), says.words()), true);
            try {
                test.invoke(null);
            } catch (InvocationTargetException thrown) {
                Given.check("the test ends", thrown.getCause().toString(), "without a throw");
            }
        }
        checkRefusals();
        Given.begin("The whole document");
        Given.check("words without a test", document.untold(), List.of());
        System.out.println(tests.size() + " sentences, " + Given.checks() + " checks, " + Given.wrong() + " wrong");
        System.exit(Given.wrong() == 0 ? 0 : 1);
    }
}
