import java.io.File;
import java.io.IOException;
import java.lang.reflect.Method;
import java.lang.reflect.Modifier;
import java.nio.file.Files;
import java.nio.file.Path;
import java.util.HashMap;
import java.util.Map;
import java.util.Set;
import java.util.TreeSet;
import java.util.regex.Matcher;
import java.util.regex.Pattern;

/** README.md: its example answers as it says, and it tells each call, each constant and each test. */
public final class ReadmeTest {
    private static final String NEW = "CornLaws laws = new CornLaws();";
    private static final Pattern EXAMPLE = Pattern.compile("(?s)```java\n(.*?)```");
    private static final Pattern CALL =
        Pattern.compile("(?:(\\w+) (\\w+) = )?laws\\.(\\w+)\\(([^()]*)\\); +// (-?\\d+): .+");
    private static final Pattern ROW = Pattern.compile("(?m)^\\| `(\\w+)\\(([^()]*)\\)` \\| .+ \\| .+ \\|$");
    private static final Check CHECK = new Check();

    public static void main(String[] args) throws IOException, ReflectiveOperationException {
        String page = Files.readString(Path.of("README.md"));
        Matcher example = EXAMPLE.matcher(page);
        CHECK.holds("README.md has an example", example.find());
        play(example.group(1));
        callsAreTold(page);
        constantsAreTold(page);
        testsAreTold(page);
        CHECK.end();
    }

    /** Each line of the example is a call, and behind it stand its answer and why. */
    private static void play(String example) throws ReflectiveOperationException {
        String[] lines = example.split("\n");
        CHECK.same("first line of the example", lines[0], NEW);
        CornLaws laws = new CornLaws();
        Map<String, Integer> told = new HashMap<>();
        for (int i = 1; i < lines.length; i++) {
            Matcher line = CALL.matcher(lines[i]);
            if (!line.matches()) {
                CHECK.same("line of the example", lines[i], "a call with its answer");
                continue;
            }
            Method method = named(line.group(3));
            Number answer = (Number) method.invoke(laws, numbers(line.group(4), told));
            CHECK.due(lines[i], answer.longValue(), Long.parseLong(line.group(5)));
            if (line.group(1) != null) {
                CHECK.same("type in " + lines[i], method.getReturnType().toString(), line.group(1));
                CHECK.holds("told once: " + line.group(2), told.put(line.group(2), answer.intValue()) == null);
            }
        }
    }

    private static Method named(String name) {
        for (Method method : CornLaws.class.getDeclaredMethods()) {
            if (Modifier.isPublic(method.getModifiers()) && method.getName().equals(name)) {
                return method;
            }
        }
        throw new IllegalArgumentException("README.md calls " + name);
    }

    /** The arguments of a call: numbers, or names of what was told before. */
    private static Object[] numbers(String text, Map<String, Integer> told) {
        if (text.isEmpty()) {
            return new Object[0];
        }
        String[] parts = text.split(", ");
        Object[] found = new Object[parts.length];
        for (int i = 0; i < parts.length; i++) {
            found[i] = told.containsKey(parts[i]) ? told.get(parts[i]) : Integer.valueOf(parts[i]);
        }
        return found;
    }

    private static void callsAreTold(String page) {
        Set<String> found = new TreeSet<>();
        for (Matcher row = ROW.matcher(page); row.find();) {
            int many = row.group(2).isEmpty() ? 0 : row.group(2).split(", ").length;
            CHECK.holds("told once: " + row.group(1), found.add(row.group(1) + " " + many));
        }
        Set<String> due = new TreeSet<>();
        for (Method method : CornLaws.class.getDeclaredMethods()) {
            if (Modifier.isPublic(method.getModifiers())) {
                due.add(method.getName() + " " + method.getParameterCount());
            }
        }
        CHECK.same("calls told, with how many numbers each takes", found.toString(), due.toString());
    }

    private static void constantsAreTold(String page) {
        String[] names = {"NONE", "BAD", "NOT", "FULL"};
        int[] numbers = {CornLaws.NONE, CornLaws.BAD, CornLaws.NOT, CornLaws.FULL};
        for (int i = 0; i < names.length; i++) {
            CHECK.holds("told: " + names[i], page.contains("\n| `" + names[i] + "` | " + numbers[i] + " | "));
        }
    }

    private static void testsAreTold(String page) {
        File[] files = new File("src/test/java").listFiles((folder, name) -> name.endsWith("Test.java"));
        CHECK.holds("there are tests", files != null && files.length > 0);
        for (File file : files) {
            String name = "`" + file.getName().replace(".java", "") + "`";
            CHECK.holds("told: " + name, page.contains("\n| " + name) || page.contains(", " + name + " |"));
        }
    }
}
