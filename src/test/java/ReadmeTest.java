import java.io.IOException;
import java.lang.reflect.Method;
import java.nio.file.Files;
import java.nio.file.Path;
import java.util.regex.Matcher;
import java.util.regex.Pattern;

/** README.md: its examples are run as they stand there, line by line, and no call of the face is left out of it. */
final class ReadmeTest {
    private static final Pattern BLOCK = Pattern.compile("(?s)```java\n(.*?)```");
    private static final Pattern TEXT = Pattern.compile("String text = \"([^\"]*)\";");
    private static final Pattern CALL = Pattern.compile("x\\.(\\w+)\\(([-\\d, ]*)\\);\\s*// (-?\\w+).*");

    private ReadmeTest() {
    }

    public static void main(String[] args) throws IOException, ReflectiveOperationException {
        String page = Files.readString(Path.of("README.md"));
        Matcher block = BLOCK.matcher(page);
        int ran = 0;
        while (block.find()) {
            ran += run(block.group(1));
        }
        Check.due("calls in the examples", ran, calls(page));
        for (Method call : PushTray.class.getMethods()) {
            if (call.getDeclaringClass() == PushTray.class) {
                Check.isTrue("README.md tells of " + call.getName(), page.contains("\n| `" + call.getName() + "("));
            }
        }
        Check.end();
    }

    /** Each line with a call at its start has to be one that is run: none is passed over because it is written otherwise. */
    private static int calls(String page) {
        return (int) page.lines().filter(line -> line.startsWith("x.")).count();
    }

    private static int run(String example) throws ReflectiveOperationException {
        PushTray x = new PushTray();
        Matcher text = TEXT.matcher(example);
        if (text.find()) {
            Check.write(x, text.group(1));
        }
        int ran = 0;
        for (String line : example.split("\n")) {
            Matcher call = CALL.matcher(line);
            if (call.matches()) {
                Check.due(line, answer(x, call.group(1), call.group(2)), due(call.group(3)));
                ran++;
            }
        }
        return ran;
    }

    private static long answer(PushTray x, String name, String told) throws ReflectiveOperationException {
        String[] numbers = told.isBlank() ? new String[0] : told.split(", ");
        Class<?>[] types = new Class<?>[numbers.length];
        Object[] values = new Object[numbers.length];
        for (int i = 0; i < numbers.length; i++) {
            types[i] = int.class;
            values[i] = Integer.valueOf(numbers[i]);
        }
        return ((Number) PushTray.class.getMethod(name, types).invoke(x, values)).longValue();
    }

    private static long due(String told) throws ReflectiveOperationException {
        return told.matches("-?\\d+") ? Long.parseLong(told) : PushTray.class.getField(told).getInt(null);
    }
}
