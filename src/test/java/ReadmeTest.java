import java.io.IOException;
import java.lang.reflect.Method;
import java.nio.file.Files;
import java.nio.file.Path;
import java.util.regex.Matcher;
import java.util.regex.Pattern;

/** The calls that README.md tells answer what stands behind them there. */
public final class ReadmeTest extends Check {
    private static final Pattern CALL = Pattern.compile("s\\.(\\w+)\\((.*?)\\); +// (-?\\d+)(:.*)?");
    private static final String NEW_OBJECT = "SecondNearest s = new SecondNearest();";

    private ReadmeTest() { }

    private static Integer[] numbers(String told) {
        String[] parts = told.isEmpty() ? new String[0] : told.split(", ");
        Integer[] numbers = new Integer[parts.length];
        for (int i = 0; i < parts.length; i++) {
            numbers[i] = Integer.decode(parts[i]);
        }
        return numbers;
    }

    private static int answer(SecondNearest s, String name, Integer[] numbers) throws ReflectiveOperationException {
        Class<?>[] types = new Class<?>[numbers.length];
        java.util.Arrays.fill(types, int.class);
        Method method = SecondNearest.class.getMethod(name, types);
        return (Integer) method.invoke(s, (Object[]) numbers);
    }

    public static void main(String[] args) throws IOException, ReflectiveOperationException {
        part = "README.md";
        SecondNearest s = null;
        int objects = 0;
        int calls = 0;
        for (String line : Files.readAllLines(Path.of("README.md"))) {
            if (line.equals(NEW_OBJECT)) {
                s = new SecondNearest();
                objects++;
            } else if (s != null && line.startsWith("s.")) {
                Matcher call = CALL.matcher(line);
                due("a call with its answer in '" + line + "'", call.matches(), true);
                if (call.matches()) {
                    due(line, answer(s, call.group(1), numbers(call.group(2))), Integer.parseInt(call.group(3)));
                    calls++;
                }
            }
        }
        due("objects made", objects, 2);
        due("more than thirty calls", calls > 30, true);
        report();
    }
}
