import java.io.IOException;
import java.lang.reflect.Field;
import java.lang.reflect.Method;
import java.lang.reflect.Modifier;
import java.nio.file.Files;
import java.nio.file.Path;
import java.util.Arrays;
import java.util.Set;
import java.util.TreeSet;
import java.util.regex.Matcher;
import java.util.regex.Pattern;

/** What a search can find of the rules of LANGUAGE.md, and the face that the document tells. */
public final class LanguageTest {
    private static final Checks checks = new Checks();

    private static final String FACE = "back() count(int) counted(int,int,int) empty(int) "
            + "falls(int,int,int) fault() gains(int,int,int,int) glass(int,int) has(int) keep() "
            + "late(int,int,int,int) later(int,int) lay() minutes(int) night(int,int,int) "
            + "nightHas(int,int,int) pour(int,int,int,int,int) round(int,int,int) run(int) "
            + "split(int,int) stolen(int,int) turn(int) undo() wipe() write(int,long)";

    public static void main(String[] args) throws IOException {
        String source = Files.readString(Path.of("src/main/java/SandBank.java"));
        String code = source.replaceAll("(?s)/\\*.*?\\*/", "").replaceAll("//[^\n]*", "");
        words(code);
        rowsAreMadeOnce(code);
        methodLengths(source);
        face();
        classes();
        checks.close("LanguageTest");
    }

    private static void absent(String rule, String code, String pattern) {
        Matcher m = Pattern.compile(pattern).matcher(code);
        String found = m.find() ? m.group().trim() : "";
        checks.due(rule + " [" + found + "]", found.isEmpty() ? 0 : 1, 0);
    }

    private static void words(String code) {
        absent("6 words", code, "\\b(throw|throws|try|catch|finally|synchronized|assert)\\b");
        absent("2 lambdas", code, "->|::");
        absent("4 imports", code, "\\b(import|package)\\b");
        absent("4 library", code, "\\b(System\\.(?!arraycopy\\b)\\w+|Thread|Random|Object|Exact)\\b");
        absent("4 library's constants", code, "\\b(Integer|Long|Short|Byte|Math)\\.[A-Z]\\w*");
        absent("4 exact", code, "\\w+Exact\\b");
        absent("13 native", code, "\\b(native|volatile|transient|strictfp)\\b");
        absent("5 static state", code, "\\bstatic\\s+(?!final\\b)[\\w\\[\\]]+\\s+\\w+\\s*[=;]");
        absent("9 loops without an end", code, "for\\s*\\([^;]*;\\s*;|while\\s*\\(\\s*true");
    }

    /** No call makes an object: all that is made is made where a field is told. */
    private static void rowsAreMadeOnce(String code) {
        for (String line : code.split("\n")) {
            if (line.contains("new ")) {
                boolean field = line.trim().startsWith("private ") && line.contains(" = ");
                checks.due("12 made outside a field: " + line.trim(), field ? 0 : 1, 0);
            }
        }
    }

    private static void methodLengths(String source) {
        Pattern head = Pattern.compile("^( {4}| {8})\\w[^=;]*\\) \\{$");
        String[] lines = source.split("\n");
        for (int at = 0; at < lines.length; at++) {
            Matcher m = head.matcher(lines[at]);
            if (m.find()) {
                int end = at;
                while (!lines[end].equals(m.group(1) + "}")) {
                    end++;
                }
                checks.due("11 length of " + lines[at].trim(), end - at < 60 ? 0 : 1, 0);
            }
        }
    }

    private static String signature(Method m) {
        StringBuilder s = new StringBuilder(m.getName()).append('(');
        for (Class<?> p : m.getParameterTypes()) {
            s.append(s.charAt(s.length() - 1) == '(' ? "" : ",").append(p.getSimpleName());
        }
        return s.append(')').toString();
    }

    private static void face() {
        Set<String> seen = new TreeSet<>();
        Set<String> names = new TreeSet<>();
        for (Method m : SandBank.class.getDeclaredMethods()) {
            if (!Modifier.isPrivate(m.getModifiers())) {
                seen.add(signature(m));
                names.add(m.getName());
                checks.due("1 answers int: " + m, m.getReturnType() == int.class ? 0 : 1, 0);
                checks.due("1 public: " + m, Modifier.isPublic(m.getModifiers()) ? 0 : 1, 0);
            }
        }
        checks.due("1 face " + seen,
                seen.equals(new TreeSet<>(Arrays.asList(FACE.split(" ")))) ? 0 : 1, 0);
        ownNames(SandBank.class, names);
        for (Class<?> c : SandBank.class.getDeclaredClasses()) {
            ownNames(c, names);
        }
        int open = 0;
        for (Field f : SandBank.class.getDeclaredFields()) {
            open += Modifier.isPrivate(f.getModifiers()) ? 0 : 1;
        }
        checks.due("1 constants alone are seen", open, 4);
        checks.due("1 one constructor", SandBank.class.getDeclaredConstructors().length, 1);
        checks.due("1 final", Modifier.isFinal(SandBank.class.getModifiers()) ? 1 : 0, 1);
    }

    /** What is not of the face bears no name of it. */
    private static void ownNames(Class<?> c, Set<String> names) {
        for (Method m : c.getDeclaredMethods()) {
            boolean twice = !Modifier.isPublic(m.getModifiers()) && names.contains(m.getName());
            checks.due("1 private and public name " + m, twice ? 1 : 0, 0);
        }
    }

    private static void classes() {
        Class<?>[] inside = SandBank.class.getDeclaredClasses();
        checks.due("11 classes", inside.length < 12 ? 0 : 1, 0);
        limits(SandBank.class);
        for (Class<?> c : inside) {
            int mods = c.getModifiers();
            checks.due("1 static: " + c, Modifier.isStatic(mods) ? 1 : 0, 1);
            checks.due("1 not public: " + c, Modifier.isPublic(mods) ? 1 : 0, 0);
            limits(c);
        }
    }

    private static void limits(Class<?> c) {
        int fields = 0;
        for (Field f : c.getDeclaredFields()) {
            fields += Modifier.isStatic(f.getModifiers()) ? 0 : 1;
        }
        checks.due("11 fields of " + c, fields <= 20 ? 0 : 1, 0);
        for (Method m : c.getDeclaredMethods()) {
            checks.due("11 parameters of " + m, m.getParameterCount() <= 7 ? 0 : 1, 0);
        }
    }
}
