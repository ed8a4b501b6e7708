import java.lang.reflect.Method;
import java.lang.reflect.Modifier;
import java.nio.file.Files;
import java.nio.file.Path;
import java.util.Collections;
import java.util.regex.Matcher;
import java.util.regex.Pattern;

/** The example in README.md answers what its comments say, and the table there names every public method. */
public final class ReadmeTest {
    private static final Pattern BLOCK = Pattern.compile("```java\n(.*?)```", Pattern.DOTALL);
    private static final Pattern MAKING = Pattern.compile("ColourfulForest x = new ColourfulForest\\((.*)\\); // .*");
    private static final Pattern CALL = Pattern.compile("x\\.(\\w+)\\((.*)\\); *// (-?\\d+): .*");
    private static final Pattern ENDS = Pattern.compile("8 \\* (\\d) \\+ (\\d)");

    private static int wrong = 0;

    private static void fail(String what) {
        wrong++;
        System.out.println(what);
    }

    public static void main(String[] args) throws Exception {
        String readme = Files.readString(Path.of("README.md"));
        runExample(readme);
        lookForMethods(readme);
        System.out.println(wrong == 0 ? "README.md holds" : wrong + " faults in README.md");
        if (wrong != 0) {
            System.exit(1);
        }
    }

    private static void runExample(String readme) throws Exception {
        Matcher block = BLOCK.matcher(readme);
        if (!block.find()) {
            fail("README.md has no example");
            return;
        }
        ColourfulForest x = null;
        int calls = 0;
        for (String line : block.group(1).split("\n")) {
            Matcher making = MAKING.matcher(line);
            Matcher call = CALL.matcher(line);
            if (making.matches()) {
                x = new ColourfulForest(number(making.group(1)));
            } else if (x != null && call.matches()) {
                calls++;
                int got = answer(x, call.group(1), call.group(2));
                if (got != Integer.parseInt(call.group(3))) {
                    fail("answered " + got + ": " + line);
                }
            } else {
                fail("no call with its answer: " + line);
            }
        }
        if (calls == 0) {
            fail("the example has no call");
        }
    }

    private static int answer(ColourfulForest x, String name, String text) throws Exception {
        String[] parts = text.isEmpty() ? new String[0] : text.split(", ");
        Class<?>[] types = new Class<?>[parts.length];
        Object[] values = new Object[parts.length];
        for (int i = 0; i < parts.length; i++) {
            types[i] = int.class;
            values[i] = number(parts[i]);
        }
        return (Integer) ColourfulForest.class.getMethod(name, types).invoke(x, values);
    }

    private static int number(String text) {
        Matcher ends = ENDS.matcher(text);
        if (ends.matches()) {
            return 8 * Integer.parseInt(ends.group(1)) + Integer.parseInt(ends.group(2));
        }
        return Integer.parseInt(text);
    }

    private static void lookForMethods(String readme) {
        for (Method m : ColourfulForest.class.getDeclaredMethods()) {
            String arguments = String.join(", ", Collections.nCopies(m.getParameterCount(), "\\w+"));
            String row = "(?s).*\n\\| [^|]*`" + m.getName() + "\\(" + arguments + "\\)`.*";
            if (Modifier.isPublic(m.getModifiers()) && !readme.matches(row)) {
                fail("the table does not name " + m.getName());
            }
        }
    }
}
