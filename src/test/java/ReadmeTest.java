import java.io.IOException;
import java.lang.reflect.InvocationTargetException;
import java.lang.reflect.Method;
import java.lang.reflect.Modifier;
import java.nio.file.Files;
import java.nio.file.Path;
import java.util.Set;
import java.util.TreeSet;
import java.util.regex.Matcher;
import java.util.regex.Pattern;

/** The run of README.md: each call answers what stands behind it, and no call of the face is missing. */
final class ReadmeTest {
    private static final Pattern MAKE = Pattern.compile("SalaryLid x = new SalaryLid\\(\\);");
    private static final Pattern CALL = Pattern.compile("x\\.(\\w+)\\(([^)]*)\\); *// (-?\\w+)(: .+|,)?");

    private static SalaryLid x = null;
    private static final Set<String> called = new TreeSet<>();

    private ReadmeTest() {
    }

    public static void main(String[] args) throws IOException, IllegalAccessException {
        boolean inside = false;
        for (String line : Files.readAllLines(Path.of("README.md"))) {
            if (line.startsWith("```")) {
                inside = line.equals("```java");
            } else if (inside && !line.isBlank() && !line.startsWith("//")) {
                run(line);
            }
        }
        for (Method method : SalaryLid.class.getDeclaredMethods()) {
            boolean isOpen = Modifier.isPublic(method.getModifiers());
            Check.due("README.md calls " + method.getName(), !isOpen || called.contains(method.getName()), true);
        }
        Check.finish();
    }

    private static void run(String line) throws IllegalAccessException {
        Matcher call = CALL.matcher(line);
        if (MAKE.matcher(line).matches()) {
            x = new SalaryLid();
        } else if (call.matches() && x != null) {
            String got = answer(call.group(1), call.group(2).isEmpty() ? new String[0] : call.group(2).split(", "));
            Check.due(line.trim() + " (got " + got + ")", got.equals(call.group(3)), true);
        } else {
            Check.due("a line that can be run: " + line, false, true);
        }
    }

    private static String answer(String name, String[] words) throws IllegalAccessException {
        for (Method method : SalaryLid.class.getDeclaredMethods()) {
            if (method.getName().equals(name) && Modifier.isPublic(method.getModifiers()) && method.getParameterCount() == words.length) {
                called.add(name);
                try {
                    return String.valueOf(method.invoke(x, numbers(method.getParameterTypes(), words)));
                } catch (InvocationTargetException e) {
                    return e.getCause().getClass().getSimpleName();
                }
            }
        }
        return "no such call";
    }

    private static Object[] numbers(Class<?>[] types, String[] words) {
        Object[] found = new Object[words.length];
        for (int k = 0; k < words.length; k++) {
            long number = number(words[k]);
            if (types[k] == long.class) {
                found[k] = number;
            } else {
                found[k] = (int) number;
            }
        }
        return found;
    }

    private static long number(String word) {
        if (word.equals("SalaryLid.NONE")) {
            return SalaryLid.NONE;
        }
        return word.startsWith("0b") ? Long.parseLong(word.substring(2), 2) : Long.decode(word);
    }
}
