import java.lang.reflect.Method;
import java.nio.file.Files;
import java.nio.file.Path;
import java.util.regex.Matcher;
import java.util.regex.Pattern;

/** The calls that README.md tells answer what stands behind them there. */
public final class ReadmeTest {
    private static final Pattern MADE = Pattern.compile("MoveGroups x = new MoveGroups\\(\\);");
    private static final Pattern ROW = Pattern.compile("x\\.(\\w+)\\(([^)]*)\\);\\s+// (-?\\d+)(:.*)?");

    public static void main(String[] args) throws Exception {
        MoveGroups x = null;
        int rows = 0;
        int wrong = 0;
        for (String line : Files.readAllLines(Path.of("README.md"))) {
            Matcher row = ROW.matcher(line);
            if (MADE.matcher(line).matches()) {
                x = new MoveGroups();
            } else if (row.matches()) {
                rows++;
                long got = answer(x, row.group(1), row.group(2));
                if (got != Long.parseLong(row.group(3))) {
                    wrong++;
                    System.out.println("README.md: " + line + " answered " + got);
                }
            } else if (line.startsWith("x.")) {
                wrong++;
                System.out.println("README.md: a call without an answer: " + line);
            }
        }
        System.out.println(wrong == 0 ? rows + " rows of README.md hold" : wrong + " rows of README.md are wrong");
        if (wrong > 0 || rows < 20) {
            System.exit(1);
        }
    }

    private static long answer(MoveGroups x, String name, String arguments) throws Exception {
        String[] told = arguments.isEmpty() ? new String[0] : arguments.split(", ");
        for (Method method : MoveGroups.class.getMethods()) {
            if (method.getName().equals(name) && method.getParameterCount() == told.length) {
                return ((Number) method.invoke(x, numbers(method, told))).longValue();
            }
        }
        throw new IllegalArgumentException("no call " + name);
    }

    private static Object[] numbers(Method method, String[] told) {
        Object[] numbers = new Object[told.length];
        for (int i = 0; i < told.length; i++) {
            if (method.getParameterTypes()[i] == long.class) {
                numbers[i] = Long.parseLong(told[i].replace("L", ""));
            } else {
                numbers[i] = Integer.parseInt(told[i]);
            }
        }
        return numbers;
    }
}
