import java.io.IOException;
import java.lang.reflect.InvocationTargetException;
import java.lang.reflect.Method;
import java.lang.reflect.Modifier;
import java.nio.file.Files;
import java.nio.file.Path;
import java.util.List;
import java.util.regex.Matcher;
import java.util.regex.Pattern;
import java.util.stream.Stream;

/** README.md: each call of its example answers what stands behind it; every call and every test is named. */
public final class ReadmeTest {
    private static final Due DUE = new Due("readme");
    private static final Pattern CALL = Pattern.compile("x\\.(\\w+)\\(([^)]*)\\);\\s+// (-?\\d+|true|false)\\b.*");

    public static void main(String[] args) throws IOException, ReflectiveOperationException {
        String page = Files.readString(Path.of("README.md"));
        example(page);
        for (Method one : UncleAges.class.getDeclaredMethods()) {
            if (Modifier.isPublic(one.getModifiers())) {
                named(page, one.getName());
            }
        }
        try (Stream<Path> files = Files.list(Path.of("src/test/java"))) {
            for (Path file : files.toList()) {
                String name = file.getFileName().toString().replace(".java", "");
                if (name.endsWith("Test")) {
                    named(page, name);
                }
            }
        }
        DUE.end();
    }

    private static void named(String page, String name) {
        DUE.is("`" + name + "` is named", page.contains("`" + name + "`"), true);
    }

    private static void example(String page) throws ReflectiveOperationException {
        UncleAges x = new UncleAges();
        int calls = 0;
        for (String line : page.split("\n")) {
            if (line.startsWith("x.")) {
                Matcher call = CALL.matcher(line);
                DUE.is("a call and its answer: " + line, call.matches(), true);
                if (call.matches()) {
                    DUE.is(line, answer(x, call.group(1), call.group(2)), call.group(3));
                    calls++;
                }
            }
        }
        DUE.is("the page has an example", calls > 10, true);
    }

    private static String answer(UncleAges x, String name, String numbers)
            throws IllegalAccessException, InvocationTargetException {
        List<Integer> all = Stream.of(numbers.split(", ")).filter(one -> !one.isEmpty()).map(Integer::decode).toList();
        for (Method one : UncleAges.class.getDeclaredMethods()) {
            if (one.getName().equals(name) && one.getParameterCount() == all.size()) {
                return String.valueOf(one.invoke(x, all.toArray()));
            }
        }
        return "no such call";
    }
}
