import java.io.IOException;
import java.lang.reflect.InvocationTargetException;
import java.lang.reflect.Method;
import java.nio.file.Files;
import java.nio.file.Path;
import java.util.List;
import java.util.regex.Matcher;
import java.util.regex.Pattern;

/** The calls in README.md answer what stands behind them. Argument: the root of the project. */
public final class ReadmeTest {
    private static final Pattern CALL =
            Pattern.compile("    desk\\.(\\w+)\\(([^)]*)\\);(?: +// ([^:\n]+)(?::.*)?)?");
    private static final Check CHECK = new Check();

    public static void main(String[] args) throws IOException {
        Path root = Path.of(args.length > 0 ? args[0] : ".");
        List<String> lines = Files.readAllLines(root.resolve("README.md"));
        CircuitDesk desk = null;
        for (String line : lines) {
            if (line.equals("    CircuitDesk desk = new CircuitDesk();")) {
                desk = new CircuitDesk();
            } else if (line.startsWith("    desk.")) {
                Matcher m = CALL.matcher(line);
                CHECK.dueTrue("not to be read: " + line, m.matches());
                if (m.matches()) {
                    hold(line, answer(desk, m.group(1), m.group(2)), m.group(3));
                }
            }
        }
        namesEachMethod(String.join("\n", lines));
        CHECK.end("ReadmeTest");
    }

    /** A call without an answer behind it is one that answers nothing. */
    private static void hold(String line, String got, String told) {
        CHECK.dueTrue(line.trim() + " answered " + got, got.equals(told == null ? "null" : told));
    }

    private static String answer(CircuitDesk desk, String name, String written) {
        String[] parts = written.isEmpty() ? new String[0] : written.split(", ");
        Object[] values = new Object[parts.length];
        for (int i = 0; i < parts.length; i++) {
            boolean isTruth = parts[i].equals("true") || parts[i].equals("false");
            values[i] = isTruth ? (Object) Boolean.valueOf(parts[i]) : Integer.decode(parts[i]);
        }
        for (Method m : CircuitDesk.class.getDeclaredMethods()) {
            if (m.getName().equals(name) && m.getParameterCount() == values.length) {
                return answer(desk, m, values);
            }
        }
        return "no such method";
    }

    private static String answer(CircuitDesk desk, Method m, Object[] values) {
        try {
            return String.valueOf(m.invoke(desk, values));
        } catch (InvocationTargetException e) {
            return "throws " + e.getCause().getClass().getSimpleName();
        } catch (IllegalAccessException e) {
            return "is not public";
        }
    }

    private static void namesEachMethod(String readme) {
        for (Method m : CircuitDesk.class.getMethods()) {
            if (m.getDeclaringClass() == CircuitDesk.class) {
                CHECK.dueTrue("README.md does not name " + m.getName(),
                        readme.contains("`" + m.getName() + "`"));
            }
        }
    }
}
