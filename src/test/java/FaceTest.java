import java.io.IOException;
import java.lang.reflect.Constructor;
import java.lang.reflect.Field;
import java.lang.reflect.Method;
import java.lang.reflect.Modifier;
import java.nio.charset.StandardCharsets;
import java.nio.file.Files;
import java.nio.file.Path;
import java.util.HashSet;
import java.util.List;
import java.util.Set;
import java.util.TreeSet;
import java.util.regex.Pattern;

/** The public face of the document, and what of LANGUAGE.md can be seen by reflection or by words. */
final class FaceTest {
    private static final String INDEX_ARGUMENT_STATE =
        " IndexOutOfBoundsException IllegalArgumentException IllegalStateException";
    private static final String INDEX_ARGUMENT = " IndexOutOfBoundsException IllegalArgumentException";
    private static final String ARGUMENT_STATE = " IllegalArgumentException IllegalStateException";
    private static final String INDEX = " IndexOutOfBoundsException";
    private static final String[] FACE = {
        "int hit 2" + ARGUMENT_STATE,
        "int theme 1" + ARGUMENT_STATE,
        "int change 2" + ARGUMENT_STATE,
        "int cue 5" + INDEX_ARGUMENT_STATE,
        "int bar 3" + INDEX_ARGUMENT_STATE,
        "int retime 4" + INDEX_ARGUMENT,
        "int shift 2" + INDEX_ARGUMENT,
        "int open 1" + ARGUMENT_STATE,
        "int take 3" + INDEX_ARGUMENT_STATE,
        "int close 0 IllegalStateException",
        "int ofHit 2" + INDEX_ARGUMENT,
        "int ofCue 2" + INDEX_ARGUMENT,
        "int ofBar 3" + INDEX_ARGUMENT,
        "int beat 2" + INDEX,
        "int ofTake 2" + INDEX_ARGUMENT,
        "int sheet 1" + INDEX,
        "int many 1 IllegalArgumentException",
        "double meanNote 0",
        "int join 1" + INDEX,
        "int joined 2" + INDEX,
        "int bestStart 1" + INDEX,
        "int bestClick 2" + INDEX,
        "int wouldMeet 2 IllegalArgumentException",
        "long digest 0",
    };
    private static final String THROWABLE_HERE = "(IllegalStateException|IllegalArgumentException"
        + "|IndexOutOfBoundsException|ArithmeticException|UnsupportedOperationException|NoSuchElementException"
        + "|RuntimeException)\\b";
    /** A rule of LANGUAGE.md, and what it leaves out, as far as the words of one line can tell. */
    private static final String[][] LEFT_OUT = {
        {"1", "^ *package\\b|\\bprotected\\b"},
        {"2", "->|::"},
        {"4", "^import (?!java[.]util[.](ArrayList|Arrays|Iterator|List|NoSuchElementException);)"},
        {"4", "\\bSystem[.](?!arraycopy\\b)|Exact\\b|\\bMath[.]random\\b"},
        {"5", "\\bstatic *[{]"},
        {"6", "\\b(finally|synchronized|assert)\\b|\\btry *[(]"},
        {"6", "\\bcatch *[(](?!(final )?" + THROWABLE_HERE + ")|\\bthrow (?!new " + THROWABLE_HERE + ")"},
        {"13", "\\b(Thread|Random|Runtime|Process)\\b"},
    };

    private static final Check check = new Check();

    public static void main(String[] args) throws IOException {
        face();
        members();
        classesInside();
        words();
        check.end("FaceTest");
    }

    private static String faceOf(Method m) {
        StringBuilder text = new StringBuilder();
        text.append(m.getReturnType()).append(' ').append(m.getName()).append(' ').append(m.getParameterCount());
        for (Class<?> thrown : m.getExceptionTypes()) {
            text.append(' ').append(thrown.getSimpleName());
        }
        return text.toString();
    }

    private static void face() {
        check.isTrue("public and final", Modifier.isPublic(Clickbook.class.getModifiers())
            && Modifier.isFinal(Clickbook.class.getModifiers()));
        Set<String> got = new TreeSet<>();
        for (Method m : Clickbook.class.getDeclaredMethods()) {
            if (!Modifier.isPrivate(m.getModifiers())) {
                got.add(faceOf(m));
                check.isTrue(m.getName() + " is public, not static", Modifier.isPublic(m.getModifiers())
                    && !Modifier.isStatic(m.getModifiers()));
                for (Class<?> type : m.getParameterTypes()) {
                    check.isTrue(m.getName() + " takes int alone", type == int.class);
                }
            }
        }
        check.sameText("the methods", got.toString(), new TreeSet<>(List.of(FACE)).toString());
        Constructor<?>[] made = Clickbook.class.getDeclaredConstructors();
        check.same("constructors", made.length, 1);
        check.isTrue("the constructor is public and takes nothing",
            Modifier.isPublic(made[0].getModifiers()) && made[0].getParameterCount() == 0);
    }

    private static void members() {
        Set<String> names = new HashSet<>();
        for (String line : FACE) {
            names.add(line.split(" ")[1]);
        }
        for (Method m : Clickbook.class.getDeclaredMethods()) {
            if (Modifier.isPrivate(m.getModifiers())) {
                check.isTrue(m.getName() + " bears no public name", !names.contains(m.getName()));
            }
        }
        for (Field f : Clickbook.class.getDeclaredFields()) {
            check.isTrue(f.getName() + " is private", Modifier.isPrivate(f.getModifiers()));
            check.isTrue(f.getName() + " is final, if it is static",
                !Modifier.isStatic(f.getModifiers()) || Modifier.isFinal(f.getModifiers()));
        }
    }

    private static void classesInside() {
        Class<?>[] inside = Clickbook.class.getDeclaredClasses();
        check.isTrue("some twelve classes", inside.length <= 12);
        for (Class<?> c : inside) {
            check.isTrue(c.getSimpleName() + " is static", Modifier.isStatic(c.getModifiers()));
            check.isTrue(c.getSimpleName() + " is neither public nor protected",
                !Modifier.isPublic(c.getModifiers()) && !Modifier.isProtected(c.getModifiers()));
            int fields = 0;
            for (Field f : c.getDeclaredFields()) {
                fields += Modifier.isStatic(f.getModifiers()) ? 0 : 1;
            }
            check.isTrue(c.getSimpleName() + " has some twenty fields", fields <= 20);
        }
    }

    private static void words() throws IOException {
        Path source = Path.of("src/main/java/Clickbook.java");
        for (String line : Files.readAllLines(source, StandardCharsets.ISO_8859_1)) {
            for (String[] rule : LEFT_OUT) {
                check.isTrue("rule " + rule[0] + " of LANGUAGE.md: " + line.trim(),
                    !Pattern.compile(rule[1]).matcher(codeOf(line)).find());
            }
        }
    }

    /** The line without texts and comments, and without the arrows of a switch. */
    private static String codeOf(String line) {
        String withoutTexts = line.replaceAll("\"([^\"\\\\]|\\\\.)*\"|'([^'\\\\]|\\\\.)'", "0");
        return withoutTexts.replaceAll("//.*|^ */?[*].*", "").replaceAll("\\b(case [^>]*|default *)->", "");
    }
}
