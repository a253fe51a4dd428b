import java.io.IOException;
import java.lang.reflect.Method;
import java.lang.reflect.Modifier;
import java.nio.file.Files;
import java.nio.file.Path;
import java.util.Arrays;
import java.util.HashMap;
import java.util.List;
import java.util.Map;
import java.util.Set;
import java.util.TreeSet;
import java.util.regex.Matcher;
import java.util.regex.Pattern;

/** README.md: its examples are what the class answers, and it leaves no call and no test out. */
public final class ReadmeTest {
    private static final Path README = Path.of("README.md");
    private static final Path TESTS = Path.of("src/test/java");
    private static final Pattern MADE = Pattern.compile("PlanarSplit (\\w+) = new PlanarSplit\\(\\);");
    private static final Pattern CALL = Pattern.compile("(\\w+)\\.(\\w+)\\(([-\\d, ]*)\\);");

    private static final Check CHECK = new Check();

    private final Map<String, PlanarSplit> objects = new HashMap<>();
    private final Set<String> shown = new TreeSet<>();

    public static void main(String[] args) throws IOException, ReflectiveOperationException {
        List<String> lines = Files.readAllLines(README);
        new ReadmeTest().examples(lines);
        callsAreInTheTable(lines);
        testsAreListed(String.join("\n", lines));
        CHECK.end();
    }

    // ---- examples

    private void examples(List<String> lines) throws ReflectiveOperationException {
        boolean isJava = false;
        for (int i = 0; i < lines.size(); i++) {
            String line = lines.get(i);
            if (line.startsWith("```")) {
                isJava = line.equals("```java");
            } else if (isJava) {
                CHECK.at("line " + (i + 1));
                example(line);
            }
        }
        CHECK.at("examples");
        for (Method method : face()) {
            CHECK.due(method.getName() + " is shown", shown.contains(method.getName()), true);
        }
    }

    /** Behind the calls of a line stand their answers, and behind a colon whatever else is to be said. */
    private void example(String line) throws ReflectiveOperationException {
        Matcher made = MADE.matcher(line);
        if (made.matches()) {
            objects.put(made.group(1), new PlanarSplit());
            return;
        }
        String[] halves = line.split("//", 2);
        CHECK.due("answers behind calls", halves.length == 2, true);
        if (halves.length != 2) {
            return;
        }
        String answers = halves[1].split(":", 2)[0].trim();
        StringBuilder given = new StringBuilder();
        Matcher call = CALL.matcher(halves[0]);
        while (call.find()) {
            given.append(given.length() == 0 ? "" : ", ");
            given.append(answer(objects.get(call.group(1)), call.group(2), call.group(3)));
        }
        CHECK.due(halves[0].trim(), given.toString(), answers);
        CHECK.due("nothing but calls", call.replaceAll("").trim(), "");
    }

    private Object answer(PlanarSplit x, String name, String arguments) throws ReflectiveOperationException {
        shown.add(name);
        String[] texts = arguments.isEmpty() ? new String[] {} : arguments.split(", ");
        Class<?>[] types = new Class<?>[texts.length];
        Arrays.fill(types, int.class);
        Object[] values = new Object[texts.length];
        for (int i = 0; i < texts.length; i++) {
            values[i] = Integer.valueOf(texts[i]);
        }
        return PlanarSplit.class.getMethod(name, types).invoke(x, values);
    }

    private static List<Method> face() {
        return Arrays.stream(PlanarSplit.class.getDeclaredMethods())
                .filter(method -> Modifier.isPublic(method.getModifiers())).toList();
    }

    // ---- what is left out

    private static void callsAreInTheTable(List<String> lines) {
        CHECK.at("the table of calls");
        for (Method method : face()) {
            String parameters = "int \\w+, ".repeat(method.getParameterCount()).replaceFirst(", $", "");
            Pattern row = Pattern.compile("\\| `" + method.getReturnType() + " " + method.getName()
                    + "\\(" + parameters + "\\)` \\| [^|]+ \\| [^|]+ \\|");
            long rows = lines.stream().filter(line -> row.matcher(line).matches()).count();
            CHECK.due("rows of " + method.getName(), rows, 1);
        }
    }

    private static void testsAreListed(String text) throws IOException {
        CHECK.at("the list of tests");
        CHECK.due(".ci/run can be run", Files.isExecutable(Path.of(".ci/run")), true);
        try (var files = Files.list(TESTS)) {
            for (Path file : files.sorted().toList()) {
                String name = file.getFileName().toString().replace(".java", "");
                CHECK.due(name + " is named", text.contains("`" + name + "`"), true);
            }
        }
    }
}
