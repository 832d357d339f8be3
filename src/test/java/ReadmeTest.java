import java.io.IOException;
import java.lang.reflect.Method;
import java.nio.file.Files;
import java.nio.file.Path;
import java.util.List;
import java.util.Set;
import java.util.TreeSet;
import java.util.regex.Matcher;
import java.util.regex.Pattern;
import java.util.stream.Stream;

/** README.md: what it tells of answers is so, and it leaves no call and no test out. */
public final class ReadmeTest {
    private static final Check CHECK = new Check("ReadmeTest");
    private static final Pattern CALL = Pattern.compile("x\\.([a-z]+)\\(([^)]*)\\);\\s+// (true|false|-?\\d+)(:.*)?");

    public static void main(String[] args) throws Exception {
        List<String> lines = Files.readAllLines(Path.of("README.md"));
        example(lines);
        calls(String.join("\n", lines));
        tests(String.join("\n", lines));
        CHECK.finish();
    }

    /** Each line of the example is called, and answers what stands behind it. */
    private static void example(List<String> lines) throws Exception {
        RopeRemembers x = new RopeRemembers();
        int from = lines.indexOf("```java") + 1;
        CHECK.same("the example begins", lines.get(from), "RopeRemembers x = new RopeRemembers();");
        int called = 0;
        for (int i = from + 1; !lines.get(i).equals("```"); i++) {
            Matcher line = CALL.matcher(lines.get(i));
            CHECK.due("'" + lines.get(i) + "' is a call and its answer", line.matches(), true);
            CHECK.same(lines.get(i), String.valueOf(answer(x, line.group(1), line.group(2))), line.group(3));
            called++;
        }
        CHECK.due("the example has calls", called > 10, true);
    }

    private static Object answer(RopeRemembers x, String name, String told) throws Exception {
        String[] numbers = told.isEmpty() ? new String[0] : told.split(", ");
        Class<?>[] types = new Class<?>[numbers.length];
        Object[] values = new Object[numbers.length];
        for (int i = 0; i < numbers.length; i++) {
            types[i] = int.class;
            values[i] = Integer.decode(numbers[i]);
        }
        return RopeRemembers.class.getMethod(name, types).invoke(x, values);
    }

    /** The list of calls names each public method, and nothing else. */
    private static void calls(String readme) {
        String list = readme.substring(readme.indexOf("The calls, in the document's order"));
        list = list.substring(0, list.indexOf("Answers beyond one number"));
        Set<String> got = new TreeSet<>();
        Matcher quoted = Pattern.compile("`([a-z ]+)`").matcher(list);
        while (quoted.find()) {
            got.addAll(List.of(quoted.group(1).split(" ")));
        }
        Set<String> due = new TreeSet<>();
        for (Method method : RopeRemembers.class.getDeclaredMethods()) {
            if (java.lang.reflect.Modifier.isPublic(method.getModifiers())) {
                due.add(method.getName());
            }
        }
        CHECK.same("the calls told of", got.toString(), due.toString());
    }

    /** How to run the tests is told, and each test by its name. */
    private static void tests(String readme) throws IOException {
        CHECK.due("it tells of .ci/run", readme.contains("    .ci/run"), true);
        try (Stream<Path> files = Files.list(Path.of("src/test/java"))) {
            for (Path file : (Iterable<Path>) files.sorted()::iterator) {
                String name = file.getFileName().toString().replace(".java", "");
                CHECK.due("it tells of " + name, readme.contains("`" + name + "`"), true);
            }
        }
    }
}
