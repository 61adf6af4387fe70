import java.io.IOException;
import java.lang.reflect.Method;
import java.lang.reflect.Modifier;
import java.nio.file.Files;
import java.nio.file.Path;
import java.util.HashMap;
import java.util.Map;
import java.util.regex.Matcher;
import java.util.regex.Pattern;

/** What README.md shows is what the program does: each call of its examples answers the number behind it. */
public final class ReadmeTest {
    private static final String NEW_OBJECT = "SumsCopied x = new SumsCopied();";
    private static final Pattern CALL =
        Pattern.compile("(?:int (\\w+) = )?(x\\.(\\w+)\\(([^)]*)\\));\\s+// (-?\\d+): .+");
    private static final int FEWEST_CALLS = 20;

    private static final Map<String, Method> FACE = new HashMap<>();
    private static final Map<String, Integer> NAMED = new HashMap<>();
    private static SumsCopied x = null;
    private static int calls = 0;
    private static int wrong = 0;

    private static void wrongIf(boolean is, String what) {
        if (is) {
            wrong++;
            System.out.println(what);
        }
    }

    private static void examples(String readme) throws ReflectiveOperationException {
        Matcher block = Pattern.compile("(?s)```java\n(.*?)```").matcher(readme);
        while (block.find()) {
            for (String line : block.group(1).split("\n")) {
                tryLine(line.strip());
            }
        }
        wrongIf(calls < FEWEST_CALLS, "README.md shows " + calls + " calls only");
    }

    private static void tryLine(String line) throws ReflectiveOperationException {
        if (line.equals(NEW_OBJECT)) {
            x = new SumsCopied();
            NAMED.clear();
            return;
        }
        Matcher call = CALL.matcher(line);
        boolean isCall = call.matches() && x != null && FACE.containsKey(call.group(3));
        wrongIf(!isCall, "README.md: no call with its answer: " + line);
        if (isCall) {
            long got = answer(FACE.get(call.group(3)), call.group(4));
            long told = Long.parseLong(call.group(5));
            calls++;
            wrongIf(got != told, call.group(2) + " answered " + got + ", README.md tells " + told);
            if (call.group(1) != null) {
                NAMED.put(call.group(1), (int) got);
            }
        }
    }

    private static long answer(Method method, String told) throws ReflectiveOperationException {
        String[] words = told.isEmpty() ? new String[0] : told.split(", ");
        Object[] numbers = new Object[words.length];
        for (int i = 0; i < words.length; i++) {
            Integer named = NAMED.get(words[i]);
            numbers[i] = named != null ? named : (Object) Long.decode(words[i]).intValue();
        }
        return ((Number) method.invoke(x, numbers)).longValue();
    }

    public static void main(String[] args) throws IOException, ReflectiveOperationException {
        String readme = Files.readString(Path.of("README.md"));
        for (Method m : SumsCopied.class.getDeclaredMethods()) {
            if (Modifier.isPublic(m.getModifiers())) {
                FACE.put(m.getName(), m);
                wrongIf(!readme.contains("`" + m.getName() + "()`"), "README.md doesn't name " + m.getName() + "()");
            }
        }
        examples(readme);
        System.out.println(calls + " calls of README.md, " + wrong + " wrong");
        if (wrong != 0) {
            System.exit(1);
        }
    }
}
