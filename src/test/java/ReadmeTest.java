import java.io.IOException;
import java.lang.reflect.InvocationTargetException;
import java.lang.reflect.Method;
import java.lang.reflect.Modifier;
import java.nio.file.Files;
import java.nio.file.Path;
import java.util.regex.Matcher;
import java.util.regex.Pattern;

/** README.md names every call of the class, and the calls of its example answer what stands behind them. */
public final class ReadmeTest {
    private static final Check CHECK = new Check("ReadmeTest");
    private static final Pattern CALL = Pattern.compile("(?m)^x\\.(\\w+)\\(([^)]*)\\); *// (-?\\d+|true|false):");

    public static void main(String[] args) throws IOException, ReflectiveOperationException {
        String page = Files.readString(Path.of("README.md"));
        namesEveryCall(page);
        makeCallsOfExample(page);
        CHECK.finish();
    }

    private static void namesEveryCall(String page) {
        for (Method m : DayColumn.class.getDeclaredMethods()) {
            if (Modifier.isPublic(m.getModifiers())) {
                CHECK.due("README.md names " + m.getName(), page.contains("| `" + m.getName() + "("), true);
            }
        }
    }

    private static void makeCallsOfExample(String page) throws ReflectiveOperationException {
        DayColumn x = new DayColumn();
        Matcher call = CALL.matcher(page);
        int made = 0;
        while (call.find()) {
            made++;
            CHECK.due(call.group(), answer(x, call.group(1), call.group(2)), call.group(3));
        }
        long lines = page.lines().filter(line -> line.startsWith("x.")).count();
        CHECK.due("calls of the example that have an answer", made, lines);
        CHECK.due("the example has calls", made > 0, true);
    }

    private static String answer(DayColumn x, String name, String list) throws ReflectiveOperationException {
        String[] texts = list.isBlank() ? new String[0] : list.split(",");
        Class<?>[] types = new Class<?>[texts.length];
        Object[] numbers = new Object[texts.length];
        for (int i = 0; i < texts.length; i++) {
            types[i] = int.class;
            numbers[i] = Long.decode(texts[i].trim()).intValue();
        }
        try {
            return String.valueOf(DayColumn.class.getMethod(name, types).invoke(x, numbers));
        } catch (InvocationTargetException e) {
            return "throws " + e.getCause();
        }
    }
}
