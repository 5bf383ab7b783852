import java.lang.reflect.Field;
import java.lang.reflect.Method;
import java.lang.reflect.Modifier;
import java.nio.file.Files;
import java.nio.file.Path;
import java.util.ArrayList;
import java.util.List;
import java.util.Set;
import java.util.regex.Matcher;
import java.util.regex.Pattern;
import java.util.stream.Stream;

/** Those rules of LANGUAGE.md that can be seen in the text and the members of the class. Run at the root. */
public final class LanguageTest {
    private static final Path FOLDER = Path.of("src/main/java");
    private static final Set<String> IMPORTS = Set.of("java.util.Arrays", "java.util.ArrayList", "java.util.List",
        "java.util.Iterator");
    private static final Set<String> SYSTEM_AND_ARRAYS = Set.of("System.arraycopy", "Arrays.copyOf",
        "Arrays.copyOfRange", "Arrays.fill");
    private static final int MOST_CLASSES = 12;
    private static final int MOST_FIELDS = 20;
    private static final int MOST_PARAMETERS = 7;
    private static final int MOST_LINES = 60;

    public static void main(String[] args) throws Exception {
        String source = withoutComments(Files.readString(FOLDER.resolve("TurnGroups.java")));
        oneFile(source);
        noWords(source);
        library(source);
        methodsAreShort(source);
        members();
        Due.end();
    }

    private static String withoutComments(String source) {
        return source.replaceAll("(?s)/\\*.*?\\*/", "").replaceAll("//[^\n]*", "");
    }

    /** All places of a kind: none is due. */
    private static void none(String source, String kind) {
        Matcher found = Pattern.compile(kind).matcher(source);
        while (found.find()) {
            Due.answer("a place with '" + found.group().strip() + "'", 1, 0);
        }
    }

    private static void oneFile(String source) throws Exception {
        Due.by("The program is one file, without a package line");
        try (Stream<Path> files = Files.walk(FOLDER)) {
            Due.answer("how many files there are", files.filter(Files::isRegularFile).count(), 1);
        }
        none(source, "\\bpackage\\b");
    }

    private static void noWords(String source) {
        Due.by("2: no lambda, no method reference, no local or anonymous class");
        none(source, "->|::");
        none(source, "\\bnew \\w+(<\\w*>)?\\([^;{}]*\\) *\\{");
        none(source, "\n {8,}(private |static |final |abstract )*(class|record|enum|interface) \\w+");
        Due.by("5: Static fields are final; no static initialiser block");
        none(source, "\\bstatic *\\{");
        Due.by("6: No throw, try, catch, synchronized, assert");
        none(source, "\\b(throw|throws|try|catch|finally|synchronized|assert|volatile|native)\\b");
        none(source, "\\b(equals|hashCode|toString|getClass)\\(");
    }

    private static void library(String source) {
        Due.by("4: The library: only what stands here");
        for (Matcher found = Pattern.compile("\\bimport ([\\w.*]+);").matcher(source); found.find();) {
            Due.answer("import " + found.group(1), IMPORTS.contains(found.group(1)) ? 1 : 0, 1);
        }
        for (Matcher found = Pattern.compile("\\b(System|Arrays)\\.\\w+").matcher(source); found.find();) {
            Due.answer(found.group(), SYSTEM_AND_ARRAYS.contains(found.group()) ? 1 : 0, 1);
        }
        none(source, "\\b(Math|Integer|Long)\\.\\w*Exact\\b");
        none(source, "\\b(java|javax)\\.(?!util\\.)\\w+");
        none(source, "\\b(Math\\.random|Thread|Random|Runtime|Object|Throwable|Exception)\\b");
    }

    /** A method begins with a line that ends with a brace and ends with a brace as far to the left. */
    private static void methodsAreShort(String source) {
        Due.by("11: Methods stay short (some sixty lines)");
        String[] lines = source.split("\n");
        for (int k = 0; k < lines.length; k++) {
            if (lines[k].matches(" {4,8}[^ ].*\\) \\{")) {
                String end = lines[k].replaceAll("[^ ].*", "}");
                int last = k;
                while (last < lines.length && !lines[last].equals(end)) {
                    last++;
                }
                Due.answer("whether so few lines are in" + lines[k], last - k < MOST_LINES ? 1 : 0, 1);
            }
        }
    }

    private static void members() {
        List<Class<?>> classes = new ArrayList<>(List.of(TurnGroups.class));
        classes.addAll(List.of(TurnGroups.class.getDeclaredClasses()));
        Due.by("11: some twelve classes, some twenty fields, at most seven parameters");
        Due.answer("whether there are so few classes", classes.size() <= MOST_CLASSES ? 1 : 0, 1);
        for (Class<?> owner : classes) {
            int fields = 0;
            for (Field field : owner.getDeclaredFields()) {
                fields += Modifier.isStatic(field.getModifiers()) ? 0 : 1;
            }
            Due.answer("whether there are so few fields in " + owner, fields <= MOST_FIELDS ? 1 : 0, 1);
            for (Method method : owner.getDeclaredMethods()) {
                Due.answer("whether so few are taken by " + method,
                    method.getParameterCount() <= MOST_PARAMETERS ? 1 : 0, 1);
            }
        }
    }
}
