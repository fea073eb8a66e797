import java.io.IOException;
import java.lang.reflect.InvocationTargetException;
import java.lang.reflect.Method;
import java.nio.file.Files;
import java.nio.file.Path;
import java.util.regex.Matcher;
import java.util.regex.Pattern;

/** The calls that README.md shows, made one after the other on one object, answer what stands behind them. */
public final class ReadmeTest {
    private static final Pattern CALL = Pattern.compile("journal\\.(\\w+)\\((.*)\\); +// (throws )?(-?\\w+).*");

    private final RoundJournal journal = new RoundJournal();
    private int calls = 0;

    private ReadmeTest() { }

    public static void main(String[] args) throws IOException {
        ReadmeTest test = new ReadmeTest();
        for (String line : Files.readAllLines(Path.of("README.md"))) {
            if (line.startsWith("journal.")) {
                test.dueAsTold(line);
            }
        }
        Checks.due("README.md shows calls", test.calls > 0, true);
        Checks.end("ReadmeTest");
    }

    private void dueAsTold(String line) {
        calls++;
        Matcher call = CALL.matcher(line);
        if (Checks.due(line + " tells its answer", call.matches(), true)) {
            String[] arguments = call.group(2).isEmpty() ? new String[0] : call.group(2).split(", ");
            String want = (call.group(3) == null ? "" : "throws.") + call.group(4);
            Checks.due(line, answer(call.group(1), arguments), want);
        }
    }

    private String answer(String name, String[] arguments) {
        for (Method method : RoundJournal.class.getMethods()) {
            if (method.getName().equals(name) && method.getParameterCount() == arguments.length) {
                return answer(method, arguments);
            }
        }
        return "no such call";
    }

    private String answer(Method method, String[] arguments) {
        Object[] values = new Object[arguments.length];
        for (int i = 0; i < values.length; i++) {
            long value = Long.decode(arguments[i]);
            if (method.getParameterTypes()[i] == int.class) {
                values[i] = (int) value;
            } else {
                values[i] = value;
            }
        }
        try {
            return String.valueOf(method.invoke(journal, values));
        } catch (InvocationTargetException e) {
            return "throws." + e.getCause().getClass().getSimpleName();
        } catch (IllegalAccessException e) {
            return "no public call";
        }
    }
}
