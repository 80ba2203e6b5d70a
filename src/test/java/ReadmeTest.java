import java.io.IOException;
import java.lang.reflect.Method;
import java.nio.file.Files;
import java.nio.file.Path;
import java.util.ArrayList;
import java.util.List;
import java.util.regex.Matcher;
import java.util.regex.Pattern;
import java.util.stream.Stream;

/** README.md is true: the calls of its example answer what it says, the classes and tests that it names are there, all of them. */
public final class ReadmeTest {
    private static final Path README = Path.of("README.md");
    private static final Path PROGRAM = Path.of("src", "main", "java", "SilentRent.java");
    private static final Path TESTS = Path.of("src", "test", "java");
    private static final Pattern TEXT = Pattern.compile("String text = \"([^\"]*)\";");
    private static final Pattern CALL = Pattern.compile("x\\.(\\w+)\\(([-0-9, ]*)\\); +// (-?\\w+)");
    private static final Due due = new Due("ReadmeTest");

    public static void main(String[] args) throws Exception {
        String readme = Files.readString(README);
        example(readme);
        classes(readme);
        tests(readme);
        due.end();
    }

    private static void example(String readme) throws Exception {
        int start = readme.indexOf("```java\n");
        int end = readme.indexOf("\n```", start + 1);
        due.is("there is an example", start >= 0 && end > start ? 1 : 0, 1);
        String code = readme.substring(start, end);
        Matcher text = TEXT.matcher(code);
        due.is("the example has a text", text.find() ? 1 : 0, 1);
        SilentRent x = new SilentRent();
        Due.typed(x, text.group(1));
        List<String> asked = new ArrayList<>();
        for (String line : code.split("\n")) {
            Matcher call = CALL.matcher(line);
            if (call.lookingAt()) {
                due.is("README.md: " + line, ask(x, call.group(1), call.group(2)), number(call.group(3)));
                asked.add(call.group(1));
            } else {
                due.is("no call without its answer: " + line, line.startsWith("x.") ? 1 : 0, 0);
            }
        }
        due.is("the example asks enough, " + asked, asked.size() >= 20 ? 1 : 0, 1);
    }

    private static long ask(SilentRent x, String name, String numbers) throws Exception {
        List<Object> given = new ArrayList<>();
        for (String number : numbers.split(",")) {
            if (!number.isBlank()) {
                given.add(Integer.valueOf(number.trim()));
            }
        }
        for (Method m : SilentRent.class.getMethods()) {
            if (m.getName().equals(name) && m.getParameterCount() == given.size()) {
                return ((Number) m.invoke(x, given.toArray())).longValue();
            }
        }
        throw new IllegalStateException("there is no call " + name + " of " + given.size() + " numbers");
    }

    /** A number, or a constant of the class. */
    private static long number(String told) throws Exception {
        return told.matches("-?[0-9]+") ? Long.parseLong(told) : SilentRent.class.getField(told).getInt(null);
    }

    private static void classes(String readme) throws IOException {
        String built = between(readme, "## How it is built", "\n## ");
        for (Class<?> inside : SilentRent.class.getDeclaredClasses()) {
            due.is("README.md names " + inside.getSimpleName(), built.contains("`" + inside.getSimpleName() + "`") ? 1 : 0, 1);
        }
        Matcher named = Pattern.compile("`([A-Z]\\w*)`").matcher(built);
        String program = Files.readString(PROGRAM);
        while (named.find()) {
            due.is("there is a class " + named.group(1), program.contains(" class " + named.group(1) + " ") ? 1 : 0, 1);
        }
    }

    private static void tests(String readme) throws IOException {
        String run = between(readme, "## How to run the tests", "\n## ");
        List<String> there = new ArrayList<>();
        try (Stream<Path> all = Files.list(TESTS)) {
            all.forEach(file -> there.add(file.getFileName().toString().replace(".java", "")));
        }
        for (String test : there) {
            due.is("README.md names " + test, run.contains("`" + test + "`") ? 1 : 0, 1);
        }
        Matcher named = Pattern.compile("`([A-Z]\\w*)`").matcher(run);
        while (named.find()) {
            due.is("there is a file of " + named.group(1), there.contains(named.group(1)) ? 1 : 0, 1);
        }
        due.is("README.md tells how the tests are run", run.contains("\n.ci/run\n") && Files.isExecutable(Path.of(".ci", "run")) ? 1 : 0, 1);
    }

    private static String between(String text, String start, String end) {
        int from = text.indexOf(start);
        due.is("README.md has '" + start + "'", from >= 0 ? 1 : 0, 1);
        int to = text.indexOf(end, from + start.length());
        return from < 0 ? "" : text.substring(from, to < 0 ? text.length() : to);
    }
}
