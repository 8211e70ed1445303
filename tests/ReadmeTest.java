import java.io.IOException;
import java.lang.reflect.Method;
import java.lang.reflect.Modifier;
import java.nio.file.Files;
import java.nio.file.Path;
import java.util.List;
import java.util.regex.Matcher;
import java.util.regex.Pattern;
import java.util.stream.Stream;

/** What README.md says holds: its calls answer what stands behind them, its tells are told, and nothing is left out. */
public final class ReadmeTest extends Kit {
    private static final Pattern CALL = Pattern.compile("x\\.(\\w+)\\((.*?)\\);\\s+// (-?\\d+|true|false).*");
    private static final Pattern TELL = Pattern.compile("\\| `([a-z]+ [^`]*;)` \\|.*");

    public static void main(String[] args) throws Exception {
        List<String> lines = Files.readAllLines(Path.of("README.md"));
        String readme = String.join("\n", lines);
        calls(lines);
        tells(lines);
        noCallLeftOut(readme);
        noTestLeftOut(readme);
        end();
    }

    private static void calls(List<String> lines) throws Exception {
        SpreadRows x = new SpreadRows();
        int calls = 0;
        for (String line : lines) {
            if (!line.startsWith("x.")) continue;
            Matcher m = CALL.matcher(line);
            due(line + " is a call with its answer", m.matches(), true);
            due(line, "" + answer(x, m.group(1), m.group(2)), m.group(3));
            calls++;
        }
        due("calls", calls > 0, true);
    }

    private static Object answer(SpreadRows x, String name, String arguments) throws Exception {
        for (Method method : SpreadRows.class.getDeclaredMethods()) {
            if (!method.getName().equals(name) || !Modifier.isPublic(method.getModifiers())) continue;
            Class<?>[] types = method.getParameterTypes();
            String[] words = arguments.split(",\\s*");
            Object[] values = new Object[types.length];
            for (int i = 0; i < types.length; i++) values[i] = value(words[i], types[i]);
            return method.invoke(x, values);
        }
        return "no such call";
    }

    private static Object value(String word, Class<?> type) {
        if (type == boolean.class) return Boolean.valueOf(word);
        if (type == long.class) return Long.decode(word);
        return Integer.decode(word);
    }

    /** The tells of the table are one text, in their order. */
    private static void tells(List<String> lines) {
        StringBuilder text = new StringBuilder();
        int n = 0;
        for (String line : lines) {
            Matcher m = TELL.matcher(line);
            if (m.matches()) {
                text.append(m.group(1));
                n++;
            }
        }
        due("tells", n, 10);
        SpreadRows x = told(text.toString());
        rowDue("what is told", "4 1 1 1 1 128 0 0 4 -1 4", x::count);
        due("its p", x.count(20), 7);
    }

    private static void noCallLeftOut(String readme) {
        for (Method method : SpreadRows.class.getDeclaredMethods()) {
            if (Modifier.isPublic(method.getModifiers())) due(method.getName(), readme.contains("`" + method.getName() + "`"), true);
        }
    }

    private static void noTestLeftOut(String readme) throws IOException {
        try (Stream<Path> files = Files.list(Path.of("tests"))) {
            for (Path file : files.toList()) {
                String name = file.getFileName().toString().replace(".java", "");
                due(name, readme.contains("`" + name + "`"), true);
            }
        }
    }
}
