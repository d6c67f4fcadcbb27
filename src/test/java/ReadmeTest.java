import java.nio.file.DirectoryStream;
import java.nio.file.Files;
import java.nio.file.Path;
import java.util.ArrayList;
import java.util.List;
import java.util.TreeSet;
import java.util.regex.Matcher;
import java.util.regex.Pattern;

/** README.md: each call of its example gives what stands behind it, and its tables have each call and each test. */
public final class ReadmeTest {
    private static final Pattern EXAMPLE =
        Pattern.compile("bench\\.(\\w+\\([^)]*\\)); +// (true|false|NONE|\\d+)(: .*)?");
    private static final Pattern ROW = Pattern.compile("\\| `(\\w+\\([^)]*\\))` \\| .* \\| ([\\d, ]*)\\|");
    /** What a remark of the example says that a SHELF has: "SHELF 4 has the RULER 0 1 4 6". */
    private static final Pattern SHELF = Pattern.compile("SHELF (\\d+) has (?:the RULER |the RING )?(0(?: \\d+)+)");
    private static final Pattern TEST = Pattern.compile("\\| `(\\w+Test)` \\| .* \\|");
    private static int wrong = 0;

    private ReadmeTest() {
    }

    private static void check(String what, Object got, Object want) {
        if (!got.equals(want)) {
            wrong++;
            System.out.println(what + ": " + got + ", due is " + want);
        }
    }

    private static void checkExample(List<String> lines) {
        Bench bench = new Bench();
        int calls = 0;
        for (String line : lines) {
            if (line.startsWith("bench.")) {
                Matcher told = EXAMPLE.matcher(line);
                check("a call with its answer, " + line, told.matches(), true);
                Object got = bench.call(told.group(1).replace("L)", ")"));
                check(line, got.toString(), told.group(2).replace("NONE", "-1"));
                checkShelf(line, bench);
                calls++;
            }
        }
        check("the example has calls", calls > 20, true);
    }

    private static void checkShelf(String line, Bench bench) {
        Matcher told = SHELF.matcher(line);
        if (told.find()) {
            String marks = bench.shownShelf(Integer.parseInt(told.group(1))).split(" / ")[0];
            check(line, marks, told.group(2));
        }
    }

    private static String statusNumbers(String name) {
        for (String row : SentenceTest.PROMISED) {
            if (row.startsWith(name + " ")) {
                return row.substring(name.length() + 1).replace(" ", ", ");
            }
        }
        return "";
    }

    /** "tell(shelf, what): 2, 4, 5" for each method of the document. */
    private static List<String> promised() throws Exception {
        List<String> found = new ArrayList<>();
        for (String method : Document.read().methods()) {
            String call = method.replaceAll("(int|long|boolean) ", "");
            found.add(call + ": " + statusNumbers(Bench.nameOf(call)));
        }
        return found;
    }

    private static void checkTable(List<String> lines) throws Exception {
        List<String> rows = new ArrayList<>();
        for (String line : lines) {
            Matcher row = ROW.matcher(line);
            if (row.matches()) {
                rows.add(row.group(1) + ": " + row.group(2).trim());
            }
        }
        check("the table of calls", rows, promised());
    }

    private static void checkTests(List<String> lines) throws Exception {
        TreeSet<String> due = new TreeSet<>();
        try (DirectoryStream<Path> files = Files.newDirectoryStream(Path.of("src/test/java"), "*Test.java")) {
            for (Path file : files) {
                due.add(file.getFileName().toString().replace(".java", ""));
            }
        }
        TreeSet<String> told = new TreeSet<>();
        for (String line : lines) {
            Matcher row = TEST.matcher(line);
            if (row.matches()) {
                told.add(row.group(1));
            }
        }
        check("the table of tests", told, due);
    }

    public static void main(String[] args) throws Exception {
        List<String> lines = Files.readAllLines(Path.of("README.md"));
        checkExample(lines);
        checkTable(lines);
        checkTests(lines);
        System.out.println(wrong == 0 ? "README.md says what is so" : wrong + " things in README.md are not so");
        System.exit(wrong == 0 ? 0 : 1);
    }
}
