import java.io.IOException;
import java.nio.file.Files;
import java.nio.file.Path;
import java.util.ArrayList;
import java.util.List;
import java.util.regex.Matcher;
import java.util.regex.Pattern;

/** The document's text, every space or line's end one space, and which of its words a test stands for. */
final class Document {
    /** What no call can break: headings, names, the face (FaceTest reads it), and what the document leaves free. */
    private static final String[] FREE = {
        "^.*?==== 1\\.", "; what later calls answer is free\\.", "## The public face.*?## Terms RULERS\\.",
        "```text( KINDS:)?", "```", "==== \\d\\. [A-Z]+\\.?", "## Promise \\d+: [^`]*`[^`]*`:",
        "Ahead of the calls .*? the interface says: ---- [A-Z]+\\.", "## Not promised.*$",
    };

    private final String text;
    private final boolean[] told;

    private Document(String text) {
        this.text = text;
        this.told = new boolean[text.length()];
        for (String free : FREE) {
            Matcher found = Pattern.compile(free).matcher(text);
            while (found.find()) {
                mark(found.start(), found.end());
            }
        }
    }

    static Document read() throws IOException {
        String shared = System.getenv("SHARED") == null ? "../shared" : System.getenv("SHARED");
        return new Document(Files.readString(Path.of(shared, "DOC.md")).replaceAll("\\s+", " "));
    }

    private void mark(int from, int to) {
        for (int i = from; i < to; i++) {
            told[i] = true;
        }
    }

    /** Whether words stand under a heading, before the next one; they are told then. */
    boolean tells(String heading, String words) {
        boolean numbered = Character.isDigit(heading.charAt(0));
        String mark = numbered ? "==== " + heading : "## " + heading + (heading.startsWith("Promise") ? ":" : "");
        int from = text.indexOf(mark) + mark.length();
        int place = text.substring(from).split("## |==== ", 2)[0].indexOf(words);
        if (place >= 0) {
            mark(from + place, from + place + words.length());
        }
        return place >= 0;
    }

    /** The words that no test stands for, in the document's order. */
    List<String> untold() {
        List<String> found = new ArrayList<>();
        StringBuilder words = new StringBuilder();
        for (int i = 0; i <= text.length(); i++) {
            if (i < text.length() && !told[i]) {
                words.append(text.charAt(i));
            } else {
                if (words.chars().anyMatch(Character::isLetterOrDigit)) {
                    found.add(words.toString().trim());
                }
                words.setLength(0);
            }
        }
        return found;
    }

    /** The methods of the public face, as in "int tell(int shelf, int what)". */
    List<String> methods() {
        List<String> found = new ArrayList<>();
        String face = text.substring(text.indexOf("## The public face"), text.indexOf("## Terms"));
        Matcher method = Pattern.compile("public (\\w+ \\w+\\([^)]*\\));").matcher(face);
        while (method.find()) {
            found.add(method.group(1));
        }
        return found;
    }
}
