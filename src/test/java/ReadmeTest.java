import java.io.IOException;
import java.lang.reflect.InvocationTargetException;
import java.lang.reflect.Method;
import java.lang.reflect.Modifier;
import java.nio.file.Files;
import java.nio.file.Path;
import java.util.List;
import java.util.regex.Matcher;
import java.util.regex.Pattern;
import java.util.stream.Stream;

/** What README.md tells of calls, answers and tests is so: its example is run as it stands there. */
public final class ReadmeTest {
    private static final Check c = new Check("ReadmeTest");
    private static final Pattern CALL = Pattern.compile("x\\.(\\w+)\\(([^)]*)\\);\\s*// -> (-?\\d+)(\\s.*)?");

    private ReadmeTest() {
    }

    public static void main(String[] args) throws IOException, ReflectiveOperationException {
        String text = Files.readString(Path.of("README.md"));
        int from = text.indexOf("```java\n");
        int to = text.indexOf("```", from + 3);
        c.holds("there is an example", from >= 0 && to > from);
        example(text.substring(from + 8, to));
        namesEachCall(text);
        namesEachTest(text.substring(text.indexOf("## Tests")));
        c.end();
    }

    private static void example(String rows) throws ReflectiveOperationException {
        BusThrees x = new BusThrees();
        int calls = 0;
        for (String row : rows.split("\n")) {
            if (row.isBlank() || row.equals("BusThrees x = new BusThrees();")) {
                continue;
            }
            Matcher call = CALL.matcher(row);
            boolean isCall = call.matches();
            c.holds("a call and its answer: " + row, isCall);
            if (isCall) {
                long answer = answer(x, call.group(1), call.group(2));
                c.due("the example's " + row, answer, Long.parseLong(call.group(3)));
                calls++;
            }
        }
        c.holds("some calls in the example", calls > 20);
    }

    private static long answer(BusThrees x, String name, String arguments)
            throws IllegalAccessException, InvocationTargetException {
        String[] parts = arguments.isEmpty() ? new String[0] : arguments.split(", ");
        for (Method m : BusThrees.class.getMethods()) {
            if (m.getName().equals(name) && m.getParameterCount() == parts.length) {
                Object[] numbers = Stream.of(parts).map(ReadmeTest::number).toArray();
                return ((Number) m.invoke(x, numbers)).longValue();
            }
        }
        c.holds("there is " + name + "(" + arguments + ")", false);
        return 0;
    }

    /** A number, or a sign between two '. */
    private static Integer number(String part) {
        return part.startsWith("'") ? part.charAt(1) : Integer.parseInt(part);
    }

    private static void namesEachCall(String text) {
        String calls = text.substring(text.indexOf("## The calls"), text.indexOf("## How it is made"));
        for (Method m : BusThrees.class.getDeclaredMethods()) {
            if (Modifier.isPublic(m.getModifiers())) {
                Matcher told = Pattern.compile("`" + m.getName() + "\\(([^)]*)\\)`").matcher(calls);
                boolean isTold = told.find();
                c.holds("README names " + m.getName(), isTold);
                if (isTold) {
                    int count = told.group(1).isEmpty() ? 0 : told.group(1).split(", ").length;
                    c.due("README's numbers for " + m.getName(), count, m.getParameterCount());
                }
            }
        }
    }

    private static void namesEachTest(String text) throws IOException {
        List<Path> files;
        try (Stream<Path> all = Files.list(Path.of("src/test/java"))) {
            files = all.toList();
        }
        for (Path file : files) {
            String name = file.getFileName().toString().replace(".java", "");
            c.holds("README names " + name, text.contains("`" + name + "`"));
        }
        Matcher named = Pattern.compile("`(\\w+)`").matcher(text);
        while (named.find()) {
            c.holds("there is " + named.group(1), Files.exists(Path.of("src/test/java", named.group(1) + ".java")));
        }
        c.holds("there is .ci/run", text.contains("\n.ci/run\n") && Files.isExecutable(Path.of(".ci/run")));
    }
}
