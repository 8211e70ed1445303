import java.io.ByteArrayOutputStream;
import java.io.PrintStream;
import java.lang.reflect.Constructor;
import java.lang.reflect.Field;
import java.lang.reflect.Method;
import java.lang.reflect.Modifier;
import java.nio.file.Files;
import java.nio.file.Path;
import java.util.ArrayList;
import java.util.HashMap;
import java.util.List;
import java.util.Map;
import java.util.TreeSet;
import java.util.regex.Matcher;
import java.util.regex.Pattern;
import java.util.spi.ToolProvider;

/** The rules of ../shared/LANGUAGE.md that a test can look at, by their numbers. */
public final class LanguageTest {
    private static final String FACE = "feed(5) back(1) read(0) place(0) code(2) chip(2) alike(3) worst(2) times(3) depth(1) family(2) sample(2) "
        + "power(2) wave(3) add(2) noise(2) anew(0) sum(5) metric(4) best(3) second(4) peak(5) alarms(4) plan(6) mean(6) over(5) bit(2) wrong(1) "
        + "joined(2) frame(3) hurt(4) atOnce(1) taken(2) rest(1) loop(5) follows(2) range(6) near(5) hop(2) hits(3) worstHits(2) crowded(3) "
        + "jammed(2) strongest(2) hold(1) restore(1) count(1)";
    private static final String[] NOT_THERE = {"\\b(throw|throws|try|catch|finally|synchronized|assert|import|package|volatile|transient|native)\\b",
        "->", "::", "\\b(double|float|NaN|Object|System|Thread|Runtime|Random)\\b", "\\w+Exact\\b", "\\b(equals|hashCode|toString)\\b",
        "\"\\s*\\+", "\\+\\s*\"", "\\binstanceof\\b", "\\bwhile\\s*\\(\\s*true", "\\bfor\\s*\\(\\s*;", "MAX_VALUE|MIN_VALUE", "\\b(String|Math|Integer|Long)\\.(?!max|min|abs|bitCount)"};

    public static void main(String[] args) throws Exception {
        face();
        classes();
        source();
        depth();
        Kit.end();
    }

    private static void no(String what) {
        Kit.due(what, true, false);
    }

    /** Rules 1 and 11. */
    private static void face() {
        TreeSet<String> due = new TreeSet<>(List.of(FACE.split(" ")));
        TreeSet<String> there = new TreeSet<>();
        TreeSet<String> names = new TreeSet<>();
        for (Method m : SpreadRows.class.getDeclaredMethods()) {
            if (Modifier.isPublic(m.getModifiers())) {
                there.add(m.getName() + "(" + m.getParameterCount() + ")");
                names.add(m.getName());
            } else if (!Modifier.isPrivate(m.getModifiers())) {
                no("method " + m);
            }
        }
        Kit.due("the public methods", there.toString(), due.toString());
        for (Method m : SpreadRows.class.getDeclaredMethods()) {
            if (Modifier.isPrivate(m.getModifiers()) && names.contains(m.getName())) no("a private method " + m.getName());
        }
        for (Field f : SpreadRows.class.getDeclaredFields()) {
            boolean constant = f.getName().equals("NONE");
            if (Modifier.isPrivate(f.getModifiers()) == constant) no("field " + f);
        }
        Constructor<?>[] constructors = SpreadRows.class.getDeclaredConstructors();
        Kit.due("constructors", constructors.length, 1);
        Kit.due("a public one", Modifier.isPublic(constructors[0].getModifiers()), true);
        Kit.due("a final class", Modifier.isFinal(SpreadRows.class.getModifiers()), true);
    }

    /** Rules 2, 5 and 11. */
    private static void classes() {
        Class<?>[] inside = SpreadRows.class.getDeclaredClasses();
        Kit.due("some twelve classes", inside.length + 1 <= 12, true);
        List<Class<?>> all = new ArrayList<>(List.of(inside));
        all.add(SpreadRows.class);
        for (Class<?> c : all) {
            int fields = 0;
            for (Field f : c.getDeclaredFields()) {
                if (!Modifier.isStatic(f.getModifiers())) fields++;
                else if (!Modifier.isFinal(f.getModifiers())) no("static " + f);
            }
            Kit.due(c + " has some twenty fields", fields <= 20, true);
            if (c != SpreadRows.class && !Modifier.isStatic(c.getModifiers())) no("inner " + c);
            for (Method m : c.getDeclaredMethods()) {
                if (m.getParameterCount() > 7) no("more than seven: " + m);
                if (c != SpreadRows.class && (" " + FACE).contains(" " + m.getName() + "(")) no("the name of a public one: " + m);
            }
        }
    }

    /** Rules 2 to 6, 10 and the length of methods. */
    private static void source() throws Exception {
        List<String> lines = Files.readAllLines(Path.of("src/main/java/SpreadRows.java"));
        int begun = 0;
        for (int i = 0; i < lines.size(); i++) {
            String line = lines.get(i).replaceAll("^\\s*(/?\\*.*|//.*)", "");
            for (String pattern : NOT_THERE) {
                if (Pattern.compile(pattern).matcher(line).find()) no("line " + (i + 1) + " with " + pattern);
            }
            if (line.matches("( {4}| {8})\\S.*\\) \\{")) begun = i;
            if (line.matches("( {4}| {8})\\}") && i - begun > 60) no("a method of " + (i - begun) + " lines, up to " + (i + 1));
            if (line.chars().anyMatch(c -> c > 127)) no("line " + (i + 1) + " with a sign beyond 127");
        }
        Kit.due("lines", lines.size() > 100, true);
    }

    /** Rule 11: calls go at most eight deep; none calls itself. */
    private static void depth() {
        Map<String, List<String>> calls = new HashMap<>();
        List<String> open = new ArrayList<>();
        String folder = System.getProperty("java.class.path").split(java.io.File.pathSeparator)[0];
        List<Class<?>> all = new ArrayList<>(List.of(SpreadRows.class.getDeclaredClasses()));
        all.add(SpreadRows.class);
        for (Class<?> c : all) {
            ByteArrayOutputStream out = new ByteArrayOutputStream();
            ToolProvider.findFirst("javap").orElseThrow().run(new PrintStream(out), System.err, "-c", "-p", "-s", "-cp", folder, c.getName());
            read(out.toString(), c.getName(), calls, open);
        }
        int deepest = 0;
        for (String from : open) deepest = Math.max(deepest, deep(from, calls, 0));
        System.out.println("calls go " + deepest + " deep");
        Kit.due("public methods seen", open.size(), 48);
        Kit.due("calls go at most eight deep", deepest <= 8, true);
    }

    private static void read(String listing, String owner, Map<String, List<String>> calls, List<String> open) {
        Pattern call = Pattern.compile("// Method (?:([\\w$]+)\\.)?\"?([\\w<>]+)\"?:(\\S+)");
        String header = "";
        List<String> now = null;
        for (String line : listing.split("\n")) {
            if (line.matches("  \\S.*;")) {
                header = line;
            } else if (line.startsWith("    descriptor: ") && header.contains("(")) {
                String name = header.replaceAll("\\(.*", "").replaceAll(".* ", "").replaceAll(".*[.$]", "");
                boolean constructor = owner.endsWith(name);
                String key = owner + "." + (constructor ? "<init>" : name) + ":" + line.substring(16);
                now = new ArrayList<>();
                calls.put(key, now);
                if (header.startsWith("  public") && owner.equals("SpreadRows")) open.add(key);
            } else if (now != null) {
                Matcher m = call.matcher(line);
                if (m.find()) now.add((m.group(1) == null ? owner : m.group(1)) + "." + m.group(2) + ":" + m.group(3));
            }
        }
    }

    /** How deep the calls go from one on; those into the library are not looked into. */
    private static int deep(String from, Map<String, List<String>> calls, int above) {
        if (!calls.containsKey(from)) return 0;
        if (above > 30) return 100;
        int most = 0;
        for (String to : calls.get(from)) most = Math.max(most, deep(to, calls, above + 1));
        return most + 1;
    }
}
