import java.io.IOException;
import java.lang.reflect.Constructor;
import java.lang.reflect.Field;
import java.lang.reflect.Method;
import java.lang.reflect.Modifier;
import java.nio.file.Files;
import java.nio.file.Path;
import java.util.Set;
import java.util.TreeSet;
import java.util.regex.Matcher;
import java.util.regex.Pattern;

/** The document's face and no more, and the rules of the language that a text can be asked for. */
public final class FaceTest {
    private static final String FACE = """
        int right(int, int); int isRight(int); int limit(int); int child(int, int); int of(int, int);
        int change(int, int, int); int answer(int, int); int slips(int, int, int); int alike(int, int);
        int go(int); int now(int); int chain(int); int ahead(int, int, int); int writes(int, int, int);
        int caught(int); int when(int, int); int copyFrom(int, int); int kindFor(int, int); int learn(int, int);
        int limitFor(int); int forbid(int); int biscuitsFor(int, int); int sources(int, int); int fits(int, int);
        int knew(int, int); int kinds(int, int); int seats(int); long odds(int, int, int); int seed(int);
        int feed(int, int); int wipe(); int text(); int hold(int, int); int as(int, int); int sheet(int, int, int);
        int write(int, int, int); int copy(int, int, int, int, int); int load(int); int judge(int); int image();
        int undo(); int tear(); int count(int); int status(int);
        """;

    private static int wrong = 0;

    private static void wrongIf(boolean is, String what) {
        if (is) {
            wrong++;
            System.out.println(what);
        }
    }

    private static void face() {
        Set<String> due = new TreeSet<>();
        for (String method : FACE.split(";")) {
            if (!method.isBlank()) {
                due.add(method.strip());
            }
        }
        Set<String> has = new TreeSet<>();
        Set<String> names = new TreeSet<>();
        for (Method m : SumsCopied.class.getDeclaredMethods()) {
            if (!Modifier.isPrivate(m.getModifiers())) {
                StringBuilder types = new StringBuilder();
                for (Class<?> type : m.getParameterTypes()) {
                    types.append(types.length() == 0 ? "" : ", ").append(type);
                }
                has.add(m.getReturnType() + " " + m.getName() + "(" + types + ")");
                names.add(m.getName());
                wrongIf(m.getModifiers() != Modifier.PUBLIC, m + " is not just public");
            }
        }
        wrongIf(!due.equals(has), "the face has " + has + ", due is " + due);
        wrongIf(SumsCopied.class.getModifiers() != (Modifier.PUBLIC | Modifier.FINAL), "not public and final");
        for (Constructor<?> c : SumsCopied.class.getDeclaredConstructors()) {
            wrongIf(c.getParameterCount() != 0 || !Modifier.isPublic(c.getModifiers()), c + " is not of the face");
        }
        for (Field f : SumsCopied.class.getDeclaredFields()) {
            wrongIf(!Modifier.isPrivate(f.getModifiers()), f + " is not private");
        }
        privateNames(SumsCopied.class, names);
        for (Class<?> c : SumsCopied.class.getDeclaredClasses()) {
            wrongIf(!Modifier.isStatic(c.getModifiers()), c + " is not static");
            privateNames(c, names);
        }
    }

    private static void privateNames(Class<?> c, Set<String> names) {
        for (Method m : c.getDeclaredMethods()) {
            boolean faceItself = c == SumsCopied.class && Modifier.isPublic(m.getModifiers());
            wrongIf(!faceItself && names.contains(m.getName()), m + " bears a name of the face");
            wrongIf(m.getParameterCount() > 7, m + " takes more than seven");
        }
        for (Field f : c.getDeclaredFields()) {
            boolean fixed = Modifier.isFinal(f.getModifiers());
            wrongIf(Modifier.isStatic(f.getModifiers()) && !fixed, f + " is static and not final");
        }
    }

    private static void language() throws IOException {
        String source = Files.readString(Path.of("src/main/java/SumsCopied.java"));
        String code = source.replaceAll("(?s)/\\*.*?\\*/", "").replaceAll("//[^\n]*", "");
        String[] out = {
            "\\b(throw|throws|try|catch|synchronized|assert|yield|var|record|package)\\b", "->", "::", "\\w+Exact\\b",
            "\\bSystem\\.(?!arraycopy\\b)", "\\bMath\\.(?!min\\b|max\\b|abs\\b)", "\\bInteger\\.(?!bitCount\\b)",
            "\\bArrays\\.(?!fill\\b)", "import (?!java\\.util\\.Arrays;)", "static \\{", "[^\\x00-\\x7F]",
        };
        for (String pattern : out) {
            Matcher m = Pattern.compile(pattern).matcher(code);
            wrongIf(m.find(), "not of the language: " + pattern);
        }
        methodLengths(source);
    }

    private static void methodLengths(String source) {
        int begun = 0;
        String[] lines = source.split("\n");
        for (int i = 0; i < lines.length; i++) {
            if (lines[i].matches(" {4,8}\\w.*\\) \\{")) {
                begun = i;
            }
            wrongIf(lines[i].matches(" {4,8}\\}") && begun > 0 && i - begun > 60 && !lines[begun].contains("class"),
                "longer than sixty lines: " + lines[begun].strip());
        }
    }

    public static void main(String[] args) throws IOException {
        face();
        language();
        System.out.println(wrong == 0 ? "the face is as due" : wrong + " are not as due");
        if (wrong != 0) {
            System.exit(1);
        }
    }
}
