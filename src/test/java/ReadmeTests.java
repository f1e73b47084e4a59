import java.io.File;
import java.lang.reflect.Method;
import java.lang.reflect.Modifier;
import java.nio.file.Files;
import java.nio.file.Path;
import java.util.List;
import java.util.regex.Matcher;
import java.util.regex.Pattern;

/** README.md: its examples answer what it says, and it names all calls and all classes of tests. */
final class ReadmeTests {
    private static final Pattern TEXT = Pattern.compile("^    for \\(char letter : \"(.*)\"\\.toCharArray.*");
    private static final Pattern CALL = Pattern.compile("^    x\\.(\\w+)\\((.*)\\); +// (-?\\d+)\\b.*");

    private ReadmeTests() {
    }

    static void run() throws Exception {
        List<String> lines = Files.readAllLines(Path.of("README.md"));
        examples(lines);
        names(String.join("\n", lines));
    }

    private static void examples(List<String> lines) throws Exception {
        ShelfFilters x = null;
        int calls = 0;
        for (String line : lines) {
            Matcher text = TEXT.matcher(line);
            Matcher call = CALL.matcher(line);
            if (text.matches()) {
                x = Check.withText(text.group(1));
            } else if (call.matches()) {
                long due = Long.parseLong(call.group(3));
                Check.same("README.md: " + line.trim(), answer(x, call.group(1), call.group(2)), due);
                calls++;
            }
        }
        Check.same("the calls of README.md's example", calls, 19);
    }

    private static long answer(ShelfFilters x, String name, String arguments) throws Exception {
        String[] words = arguments.isEmpty() ? new String[0] : arguments.split(", ");
        for (Method method : ShelfFilters.class.getMethods()) {
            if (method.getName().equals(name) && method.getParameterCount() == words.length) {
                Object[] values = new Object[words.length];
                for (int i = 0; i < words.length; i++) {
                    values[i] = value(method.getParameterTypes()[i], words[i]);
                }
                return ((Number) method.invoke(x, values)).longValue();
            }
        }
        throw new IllegalArgumentException("README.md calls " + name + ", which there is not");
    }

    private static Object value(Class<?> type, String word) {
        if (type == boolean.class) {
            return Boolean.valueOf(word);
        }
        if (type == long.class) {
            return Long.valueOf(word);
        }
        return Integer.valueOf(word);
    }

    private static void names(String page) {
        for (Method method : ShelfFilters.class.getDeclaredMethods()) {
            if (Modifier.isPublic(method.getModifiers())) {
                Check.that("README.md names " + method.getName(), page.contains("`" + method.getName() + "`")
                        || page.contains("`" + method.getName() + "()`"));
            }
        }
        for (Class<?> inner : ShelfFilters.class.getDeclaredClasses()) {
            Check.that("README.md names " + inner.getSimpleName(), page.contains("`" + inner.getSimpleName() + "`"));
        }
        for (String file : new File("src/test/java").list()) {
            String name = file.substring(0, file.lastIndexOf('.'));
            if (name.endsWith("Tests") || name.endsWith("Edges")) {
                Check.that("README.md names " + name, page.contains("`" + name + "`"));
            }
        }
    }
}
