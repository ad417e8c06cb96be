import java.io.IOException;
import java.lang.reflect.Field;
import java.lang.reflect.Method;
import java.lang.reflect.Modifier;
import java.nio.file.Files;
import java.nio.file.Path;
import java.util.regex.Matcher;
import java.util.regex.Pattern;

/** README.md: the calls it shows answer what it says, and it tells of every method and constant. */
public final class ReadmeTest {
    private static final Checks checks = new Checks();
    private static final Pattern CALL =
            Pattern.compile("bank\\.(\\w+)\\(([^)]*)\\);\\s*// (-?\\d+|[A-Z]+)\\b.*");

    public static void main(String[] args) throws IOException, ReflectiveOperationException {
        String readme = Files.readString(Path.of("README.md"));
        shownCalls(readme);
        toldMethods(readme);
        toldConstants(readme);
        checks.close("ReadmeTest");
    }

    /** Each line of Java either makes an object or is a call with its answer behind it. */
    private static void shownCalls(String readme) throws ReflectiveOperationException {
        Matcher blocks = Pattern.compile("(?s)```java\n(.*?)```").matcher(readme);
        int shown = 0;
        while (blocks.find()) {
            SandBank bank = null;
            for (String line : blocks.group(1).split("\n")) {
                Matcher call = CALL.matcher(line);
                if (line.equals("SandBank bank = new SandBank();")) {
                    bank = new SandBank();
                } else if (bank != null && call.matches()) {
                    shown++;
                    checks.due(line, answer(bank, call.group(1), call.group(2)), value(call.group(3)));
                } else {
                    checks.due("can't be read: " + line, 1, 0);
                }
            }
        }
        checks.due("calls are shown", shown > 20 ? 1 : 0, 1);
    }

    private static int value(String told) throws ReflectiveOperationException {
        return Character.isUpperCase(told.charAt(0)) ? SandBank.class.getField(told).getInt(null)
                : Integer.parseInt(told);
    }

    private static int answer(SandBank bank, String name, String told)
            throws ReflectiveOperationException {
        for (Method m : SandBank.class.getMethods()) {
            if (m.getName().equals(name)) {
                return (int) m.invoke(bank, numbers(m, told));
            }
        }
        throw new NoSuchMethodException(name);
    }

    private static Object[] numbers(Method m, String told) {
        Class<?>[] types = m.getParameterTypes();
        String[] parts = told.isEmpty() ? new String[0] : told.split(", ");
        checks.due("numbers of " + m.getName(), parts.length, types.length);
        Object[] all = new Object[types.length];
        for (int k = 0; k < all.length; k++) {
            long v = Long.decode(parts[k].replaceAll("L$", ""));
            all[k] = types[k] == long.class ? (Object) v : (Object) (int) v;
        }
        return all;
    }

    /** A row of a table for each public method, with as many numbers as it takes. */
    private static void toldMethods(String readme) {
        for (Method m : SandBank.class.getDeclaredMethods()) {
            if (!Modifier.isPublic(m.getModifiers())) {
                continue;
            }
            Matcher row = Pattern.compile("\n\\| `" + m.getName() + "\\(([^)]*)\\)` \\|").matcher(readme);
            int told = !row.find() ? -1 : row.group(1).isEmpty() ? 0 : row.group(1).split(", ").length;
            checks.due("told of " + m, told, m.getParameterCount());
        }
    }

    private static void toldConstants(String readme) throws IllegalAccessException {
        for (Field f : SandBank.class.getFields()) {
            String row = "\n| `" + f.getName() + "` | " + f.getInt(null) + " |";
            checks.due("told of " + f.getName(), readme.contains(row) ? 1 : 0, 1);
        }
    }
}
