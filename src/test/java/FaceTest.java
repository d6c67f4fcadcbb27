import java.lang.reflect.Constructor;
import java.lang.reflect.Field;
import java.lang.reflect.Member;
import java.lang.reflect.Method;
import java.lang.reflect.Modifier;
import java.nio.file.Files;
import java.nio.file.Path;
import java.util.ArrayList;
import java.util.Collections;
import java.util.List;
import java.util.TreeSet;
import java.util.regex.Pattern;

/** The class has the document's face and no other, and its file keeps to what LANGUAGE.md leaves of Java. */
public final class FaceTest {
    private static final String[] BARRED = {
        "throw", "try", "catch", "synchronized", "assert", "->", "::", "Exact", "System.out", "Random", "Object",
        "hashCode", "toString", "protected", "volatile", "native", "transient",
    };
    private static int wrong = 0;

    private static void check(String what, Object got, Object want) {
        if (!got.equals(want)) {
            wrong++;
            System.out.println(what + ": " + got + ", due is " + want);
        }
    }

    private static String told(Method method) {
        List<String> types = new ArrayList<>();
        for (Class<?> type : method.getParameterTypes()) {
            types.add(type.getName());
        }
        return method.getReturnType().getName() + " " + method.getName() + "(" + String.join(", ", types) + ")";
    }

    private static List<Member> open(Member[] members) {
        List<Member> found = new ArrayList<>();
        for (Member member : members) {
            if (!Modifier.isPrivate(member.getModifiers()) && !member.isSynthetic()) {
                found.add(member);
            }
        }
        return found;
    }

    /** The document's methods, without the names of what they take. */
    private static TreeSet<String> promised() throws Exception {
        TreeSet<String> found = new TreeSet<>();
        for (String method : Document.read().methods()) {
            found.add(method.replaceAll(" \\w+(?=[,)])", ""));
        }
        return found;
    }

    private static void checkFace() throws Exception {
        TreeSet<String> face = new TreeSet<>();
        TreeSet<String> names = new TreeSet<>();
        for (Member member : open(RulerBench.class.getDeclaredMethods())) {
            check(member.getName() + " is public", Modifier.isPublic(member.getModifiers()), true);
            check(member.getName() + " is static", Modifier.isStatic(member.getModifiers()), false);
            face.add(told((Method) member));
            names.add(member.getName());
        }
        check("methods of the document", promised().size(), 33);
        check("methods", face, promised());
        check("few classes", RulerBench.class.getDeclaredClasses().length <= 11, true);
        for (Class<?> inside : RulerBench.class.getDeclaredClasses()) {
            check(inside + " is static", Modifier.isStatic(inside.getModifiers()), true);
            for (Method method : inside.getDeclaredMethods()) {
                check(inside + "." + method.getName() + " has few parameters", method.getParameterCount() <= 7, true);
                check(inside + " has a public name, " + method.getName(), names.contains(method.getName()), false);
            }
        }
        for (Method method : RulerBench.class.getDeclaredMethods()) {
            boolean hidden = Modifier.isPrivate(method.getModifiers());
            check("private " + method.getName(), hidden && names.contains(method.getName()), false);
        }
        List<Member> fields = open(RulerBench.class.getDeclaredFields());
        check("open fields", fields.size(), 1);
        check("the open field", ((Field) fields.get(0)).toString(), "public static final int RulerBench.NONE");
        Constructor<?>[] makers = RulerBench.class.getDeclaredConstructors();
        check("constructors", makers.length, 1);
        check("the constructor", makers[0].toString(), "public RulerBench()");
        check("public final", RulerBench.class.getModifiers(), Modifier.PUBLIC | Modifier.FINAL);
        check("NONE", RulerBench.NONE, -1);
    }

    private static String withoutComments(String source) {
        return source.replaceAll("(?s)/\\*.*?\\*/", "").replaceAll("//[^\n]*", "");
    }

    private static void checkWords() throws Exception {
        String code = withoutComments(Files.readString(Path.of("src/main/java/RulerBench.java")));
        for (String word : BARRED) {
            boolean plain = Character.isLetter(word.charAt(0)) && !word.equals("Exact");
            String edge = plain ? "\\b" : "";
            check("has " + word, Pattern.compile(edge + Pattern.quote(word) + edge).matcher(code).find(), false);
        }
        List<String> imports = new ArrayList<>();
        for (String line : code.split("\n")) {
            if (line.startsWith("import ")) {
                imports.add(line);
            }
        }
        check("imports", imports, Collections.singletonList("import java.util.Arrays;"));
    }

    public static void main(String[] args) throws Exception {
        checkFace();
        checkWords();
        System.out.println(wrong == 0 ? "face and words are as due" : wrong + " are not as due");
        System.exit(wrong == 0 ? 0 : 1);
    }
}
