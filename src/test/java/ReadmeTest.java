import java.io.IOException;
import java.lang.reflect.Method;
import java.lang.reflect.Modifier;
import java.nio.file.DirectoryStream;
import java.nio.file.Files;
import java.nio.file.Path;
import java.util.Arrays;
import java.util.regex.Matcher;
import java.util.regex.Pattern;

/** README.md holds: the calls of its example answer as it says, and it names every call and every test. */
public final class ReadmeTest {
    private static final Pattern CALL = Pattern.compile("(?m)^bench\\.(\\w+)\\(([-0-9, ]*)\\); +// (-?\\d+)(?::|$)");
    private static final Pattern LINE = Pattern.compile("(?m)^bench\\.");

    private final Check check = new Check("ReadmeTest");
    private final String text;

    private ReadmeTest(String text) {
        this.text = text;
    }

    public static void main(String[] args) throws IOException, ReflectiveOperationException {
        ReadmeTest test = new ReadmeTest(Files.readString(Path.of("README.md")));
        test.example();
        test.namesCalls();
        test.namesTests();
        test.check.end();
    }

    private void example() throws ReflectiveOperationException {
        LeastRue bench = new LeastRue();
        Matcher call = CALL.matcher(text);
        int calls = 0;
        while (call.find()) {
            calls++;
            check.due(call.group(), answer(bench, call.group(1), call.group(2)), Long.parseLong(call.group(3)));
        }
        check.due("calls of the example that tell their answer", calls, LINE.matcher(text).results().count());
        check.holds("the example has calls", calls > 0);
    }

    private static long answer(LeastRue bench, String name, String given) throws ReflectiveOperationException {
        String[] numbers = given.isEmpty() ? new String[0] : given.split(", *");
        Class<?>[] types = new Class<?>[numbers.length];
        Arrays.fill(types, int.class);
        Object[] values = Arrays.stream(numbers).map(Integer::valueOf).toArray();
        return ((Number) LeastRue.class.getMethod(name, types).invoke(bench, values)).longValue();
    }

    private void namesCalls() {
        for (Method m : LeastRue.class.getDeclaredMethods()) {
            if (Modifier.isPublic(m.getModifiers())) {
                check.holds("README.md does not name " + m.getName(), text.contains("`" + m.getName() + "`"));
            }
        }
    }

    private void namesTests() throws IOException {
        try (DirectoryStream<Path> files = Files.newDirectoryStream(Path.of("src/test/java"), "*.java")) {
            for (Path file : files) {
                String name = file.getFileName().toString().replace(".java", "");
                check.holds("README.md does not name " + name, text.contains("`" + name + "`"));
            }
        }
    }
}
