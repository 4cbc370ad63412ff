import java.io.IOException;
import java.lang.reflect.Method;
import java.lang.reflect.Modifier;
import java.nio.file.Files;
import java.nio.file.Path;
import java.util.Arrays;
import java.util.Set;
import java.util.TreeSet;
import java.util.regex.Matcher;
import java.util.regex.Pattern;
import java.util.stream.Stream;

/** What README.md says: its examples answer so, and it names every call and every test. */
public final class ReadmeTest {
    private static final Checks CHECKS = new Checks();
    private static final Pattern EXAMPLE = Pattern.compile("(?s)```java\n(.*?)```");
    private static final Pattern CALL = Pattern.compile("x\\.(\\w+)\\(([^)]*)\\);\\s+// (-?\\d+).*");

    public static void main(String[] args) throws IOException, ReflectiveOperationException {
        String readme = Files.readString(Path.of("README.md"));
        Matcher examples = EXAMPLE.matcher(readme);
        int calls = 0;
        while (examples.find()) {
            calls += run(examples.group(1));
        }
        CHECKS.due("there are examples: " + calls, calls > 30 ? 1 : 0, 1);
        namesEveryCall(readme);
        namesEveryTest(readme);
        CHECKS.finish("ReadmeTest");
    }

    private static int run(String example) throws ReflectiveOperationException {
        PeeledHash x = new PeeledHash();
        int calls = 0;
        for (String line : example.lines().toList()) {
            Matcher call = CALL.matcher(line);
            if (call.matches()) {
                calls++;
                CHECKS.due("the README's " + line, answer(x, call.group(1), call.group(2)), Long.parseLong(call.group(3)));
            } else {
                CHECKS.due("the README's " + line, line.startsWith("//") || line.equals("PeeledHash x = new PeeledHash();") ? 1 : 0, 1);
            }
        }
        return calls;
    }

    private static long answer(PeeledHash x, String name, String arguments) throws ReflectiveOperationException {
        Object[] numbers = Stream.of(arguments.split(", *")).filter(one -> !one.isEmpty()).map(Integer::decode).toArray();
        Class<?>[] types = new Class<?>[numbers.length];
        Arrays.fill(types, int.class);
        return ((Number) PeeledHash.class.getMethod(name, types).invoke(x, numbers)).longValue();
    }

    private static void namesEveryCall(String readme) {
        for (Method method : PeeledHash.class.getDeclaredMethods()) {
            if (Modifier.isPublic(method.getModifiers())) {
                CHECKS.due("the README's table of calls names " + method.getName(),
                        Pattern.compile("`" + method.getName() + "\\([\\w, ]*\\)`").matcher(readme).find() ? 1 : 0, 1);
            }
        }
    }

    private static void namesEveryTest(String readme) throws IOException {
        Set<String> tests = new TreeSet<>();
        try (Stream<Path> files = Files.list(Path.of("src/test/java"))) {
            files.map(one -> one.getFileName().toString()).filter(one -> one.endsWith("Test.java"))
                    .forEach(one -> tests.add(one.replace(".java", "")));
        }
        Set<String> named = new TreeSet<>();
        Matcher name = Pattern.compile("\\b[A-Z]\\w*Test\\b").matcher(readme);
        while (name.find()) {
            named.add(name.group());
        }
        CHECKS.due("the README names " + named + ", there are " + tests, named.equals(tests) ? 1 : 0, 1);
    }
}
