import java.lang.reflect.Method;
import java.lang.reflect.Modifier;
import java.nio.file.Files;
import java.nio.file.Path;
import java.util.regex.Matcher;
import java.util.regex.Pattern;
import java.util.stream.Stream;

/** The example of README.md answers what it says there, and README.md names each call. Run at the root. */
public final class ReadmeTest {
    private static final Pattern CALL = Pattern.compile("x\\.(\\w+)\\(([^)]*)\\); +// (0x\\w+|-?\\d+).*");
    private static final int FEWEST_CALLS = 20;

    public static void main(String[] args) throws Exception {
        String text = Files.readString(Path.of("README.md"));
        Due.by("README.md says how to use the class");
        Due.answer("whether the example has some calls", exampleCalls(text) >= FEWEST_CALLS ? 1 : 0, 1);
        for (Method method : TurnGroups.class.getDeclaredMethods()) {
            if (Modifier.isPublic(method.getModifiers())) {
                named(text, method.getName());
            }
        }
        testsAreNamed(text);
        Due.end();
    }

    /** All calls of the example on one object; how many there were. */
    private static int exampleCalls(String text) throws Exception {
        TurnGroups x = new TurnGroups();
        int calls = 0;
        for (String line : text.lines().toList()) {
            Matcher call = CALL.matcher(line);
            if (call.matches()) {
                Due.answer("the README's " + line.substring(0, line.indexOf(';')), answer(x, call.group(1),
                    call.group(2)), Long.decode(call.group(3)));
                calls++;
            } else {
                Due.answer("whether the README's call has an answer: " + line, line.startsWith("x.") ? 1 : 0, 0);
            }
        }
        return calls;
    }

    private static long answer(TurnGroups x, String name, String told) throws Exception {
        String[] texts = told.isEmpty() ? new String[0] : told.split(", ");
        for (Method method : TurnGroups.class.getDeclaredMethods()) {
            Class<?>[] types = method.getParameterTypes();
            if (method.getName().equals(name) && types.length == texts.length) {
                Object[] arguments = new Object[texts.length];
                for (int k = 0; k < texts.length; k++) {
                    long number = Long.decode(texts[k]);
                    arguments[k] = types[k] == long.class ? (Object) number : (Object) (int) number;
                }
                return ((Number) method.invoke(x, arguments)).longValue();
            }
        }
        throw new IllegalStateException("no call " + name + "(" + told + ")");
    }

    private static void named(String text, String name) {
        Due.answer("whether README.md names " + name, text.contains("`" + name + "`") ? 1 : 0, 1);
    }

    private static void testsAreNamed(String text) throws Exception {
        Due.by("README.md says how to run its tests");
        Due.answer("whether README.md names .ci/run", text.contains(".ci/run") ? 1 : 0, 1);
        try (Stream<Path> files = Files.list(Path.of("src/test/java"))) {
            for (Path file : files.toList()) {
                named(text, file.getFileName().toString().replace(".java", ""));
            }
        }
    }
}
