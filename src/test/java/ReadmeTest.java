import java.io.IOException;
import java.lang.reflect.Method;
import java.lang.reflect.Modifier;
import java.nio.file.Files;
import java.nio.file.Path;
import java.util.Arrays;
import java.util.List;
import java.util.Set;
import java.util.TreeSet;
import java.util.regex.Matcher;
import java.util.regex.Pattern;
import java.util.stream.Stream;

/** What README.md tells is so: its example's answers, the calls, the tests; run from the project's directory. */
public final class ReadmeTest {
    private static final Pattern LINE = Pattern.compile("x\\.(\\w+)\\((.*)\\);\\s+// ('.'|\\w+): .*");

    public static void main(String[] args) throws IOException, ReflectiveOperationException {
        String page = Files.readString(Path.of("README.md"));
        example(page);
        calls(page);
        tests(page);
        Check.finish();
    }

    private static void example(String page) throws ReflectiveOperationException {
        int start = page.indexOf("```java\n") + 8;
        List<String> lines = page.substring(start, page.indexOf("```", start)).lines().toList();
        Check.due("whether the example begins with a new object",
            lines.get(0).startsWith("FarTypewriter x = new FarTypewriter();"), true);
        FarTypewriter x = new FarTypewriter();
        for (String line : lines.subList(1, lines.size())) {
            Matcher call = LINE.matcher(line);
            Check.due("whether the example's line tells its answer: " + line, call.matches(), true);
            if (call.matches()) {
                Check.due("README.md: " + line, made(x, call.group(1), call.group(2)), value(call.group(3)));
            }
        }
    }

    private static int made(FarTypewriter x, String name, String args) throws ReflectiveOperationException {
        Object[] values = Stream.of(args.split(",")).map(String::trim).filter(a -> !a.isEmpty())
            .map(ReadmeTest::value).toArray();
        Class<?>[] kinds = new Class<?>[values.length];
        Arrays.fill(kinds, int.class);
        Object answer = FarTypewriter.class.getMethod(name, kinds).invoke(x, values);
        return value(String.valueOf(answer));
    }

    private static int value(String word) {
        return switch (word) {
            case "true" -> 1;
            case "false" -> 0;
            default -> word.startsWith("'") ? word.charAt(1) : Integer.parseInt(word);
        };
    }

    private static void calls(String page) {
        String table = page.substring(page.indexOf("| Call |"), page.indexOf("## Tests"));
        for (Method method : FarTypewriter.class.getDeclaredMethods()) {
            if (Modifier.isPublic(method.getModifiers())) {
                Matcher told = Pattern.compile("`" + method.getName() + "\\(([^)]*)\\)`").matcher(table);
                boolean found = told.find();
                Check.due("whether README.md tells of " + method.getName(), found, true);
                int wants = !found || told.group(1).isEmpty() ? 0 : told.group(1).split(",").length;
                Check.due("what README.md hands to " + method.getName(), wants, method.getParameterCount());
            }
        }
    }

    private static void tests(String page) throws IOException {
        Set<String> told = new TreeSet<>();
        Matcher row = Pattern.compile("(?m)^\\| (\\w+(?:Test|Boundaries)) \\|").matcher(page);
        while (row.find()) {
            told.add(row.group(1));
        }
        Set<String> there = new TreeSet<>();
        try (Stream<Path> files = Files.list(Path.of("src/test/java"))) {
            files.map(f -> f.getFileName().toString().replace(".java", ""))
                .filter(f -> f.endsWith("Test") || f.endsWith("Boundaries")).forEach(there::add);
        }
        Check.due("whether README.md tells of " + there + ", not of " + told, told.equals(there), true);
    }
}
