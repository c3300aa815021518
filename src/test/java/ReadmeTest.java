import java.io.IOException;
import java.lang.reflect.InvocationTargetException;
import java.lang.reflect.Method;
import java.nio.file.Files;
import java.nio.file.Path;
import java.util.Set;
import java.util.TreeSet;
import java.util.regex.Matcher;
import java.util.regex.Pattern;

/** README.md's examples answer what is written behind them, and show each call of the face. */
public final class ReadmeTest {
    private static final Pattern TOLD = Pattern.compile("tell\\(x, \"(.*)\"\\);\\s*// (\\S+):.*");
    private static final Pattern CALLED = Pattern.compile("x\\.(\\w+)\\(([-\\d, ]*)\\);(?:\\s*// (\\S+):.*)?");
    private static int wrong = 0;

    public static void main(String[] args) throws IOException, ReflectiveOperationException {
        BinProver x = new BinProver();
        Set<String> shown = new TreeSet<>();
        for (String line : Files.readAllLines(Path.of("README.md"))) {
            Matcher told = TOLD.matcher(line);
            Matcher called = CALLED.matcher(line);
            if (told.matches()) {
                due(line, String.valueOf(Check.tell(x, told.group(1))), told.group(2));
            } else if (called.matches()) {
                shown.add(called.group(1));
                due(line, answer(x, called.group(1), called.group(2)), called.group(3));
            } else if (line.startsWith("x.") || line.startsWith("tell(")) {
                due(line, "no call that can be read", "one that can");
            }
        }
        for (Method method : BinProver.class.getMethods()) {
            if (method.getDeclaringClass() == BinProver.class && !shown.contains(method.getName())) {
                due(method.getName(), "not shown", "shown");
            }
        }
        System.out.println(wrong == 0 ? "README.md says what is so" : wrong + " lines of README.md are not so");
        System.exit(wrong == 0 ? 0 : 1);
    }

    /** A call without an answer is written without one behind it. */
    private static void due(String line, String got, String want) {
        if (!got.equals(want == null ? "null" : want)) {
            wrong++;
            System.out.println(line + " -> " + got);
        }
    }

    private static String answer(BinProver x, String name, String numbers) throws ReflectiveOperationException {
        String[] words = numbers.isBlank() ? new String[0] : numbers.split(",\\s*");
        Object[] given = new Object[words.length];
        Class<?>[] types = new Class<?>[words.length];
        for (int i = 0; i < words.length; i++) {
            given[i] = Integer.valueOf(words[i].trim());
            types[i] = int.class;
        }
        try {
            return String.valueOf(BinProver.class.getMethod(name, types).invoke(x, given));
        } catch (InvocationTargetException thrown) {
            return thrown.getCause().toString();
        }
    }
}
