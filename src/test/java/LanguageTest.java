import java.io.IOException;
import java.lang.reflect.Constructor;
import java.lang.reflect.Field;
import java.lang.reflect.Method;
import java.lang.reflect.Modifier;
import java.nio.file.Files;
import java.nio.file.Path;
import java.util.HashSet;
import java.util.List;
import java.util.Set;
import java.util.TreeSet;
import java.util.regex.Matcher;
import java.util.regex.Pattern;

/** What can be seen of the rules of LANGUAGE.md from the class and its file. */
final class LanguageTest {
    private static final String FACE = "ahead apart back begin best bestSwap captain chip count end fault feed held image league least loan "
        + "most must now outdone plan player points price priceThen regret rival rule stairs status steady swap tale team teams "
        + "twoSwaps undo week weight worthThen";

    private LanguageTest() {
    }

    public static void main(String[] args) throws IOException {
        face();
        for (Class<?> inside : SalaryLid.class.getDeclaredClasses()) {
            inside(inside);
        }
        Check.due("rule 11: classes", SalaryLid.class.getDeclaredClasses().length < 12, true);
        List<String> lines = Files.readAllLines(Path.of("src/main/java/SalaryLid.java"));
        words(lines);
        lengths(lines);
        Check.finish();
    }

    private static void face() {
        Set<String> open = new TreeSet<>();
        for (Method method : SalaryLid.class.getDeclaredMethods()) {
            boolean isOpen = Modifier.isPublic(method.getModifiers());
            if (isOpen) {
                open.add(method.getName());
            }
            Check.due("rule 1: " + method.getName() + " is private", isOpen || Modifier.isPrivate(method.getModifiers()), true);
            Check.due("rule 1: a private name, " + method.getName(), isOpen || !(" " + FACE + " ").contains(" " + method.getName() + " "), true);
        }
        Check.due("rule 1: the face " + open, String.join(" ", open).equals(FACE), true);
        for (Constructor<?> constructor : SalaryLid.class.getDeclaredConstructors()) {
            Check.due("rule 1: the constructor", Modifier.isPublic(constructor.getModifiers()) && constructor.getParameterCount() == 0, true);
        }
        int fields = 0;
        for (Field field : SalaryLid.class.getDeclaredFields()) {
            boolean isOpen = field.getName().equals("NONE") || field.getName().equals("HIDDEN");
            Check.due("rule 1: " + field.getName(), isOpen ? Modifier.isPublic(field.getModifiers()) : Modifier.isPrivate(field.getModifiers()), true);
            fields += Modifier.isStatic(field.getModifiers()) ? 0 : 1;
        }
        Check.due("rule 11: fields", fields <= 20, true);
    }

    private static void inside(Class<?> inside) {
        Check.due("rule 1: " + inside + " is static", Modifier.isStatic(inside.getModifiers()), true);
        Set<String> face = new HashSet<>(List.of(FACE.split(" ")));
        for (Method method : inside.getDeclaredMethods()) {
            Check.due("rule 1: the name " + method, face.contains(method.getName()), false);
            Check.due("rule 11: parameters of " + method, method.getParameterCount() <= 7, true);
        }
        int fields = 0;
        for (Field field : inside.getDeclaredFields()) {
            boolean isStatic = Modifier.isStatic(field.getModifiers());
            Check.due("rule 5: " + field + " is final", !isStatic || Modifier.isFinal(field.getModifiers()), true);
            fields += isStatic ? 0 : 1;
        }
        Check.due("rule 11: fields of " + inside, fields <= 20, true);
    }

    private static void words(List<String> lines) {
        Pattern wrong = Pattern.compile("->|::|\\b(catch|try|finally|synchronized|assert|package|getMessage|ordinal|System\\.(?!arraycopy)\\w+|\\w+Exact)\\b");
        Pattern library = Pattern.compile("\\b(Integer|Long|Math|Arrays|String|System)\\.(?!(bitCount|max|min|abs|fill|arraycopy)\\()");
        Pattern imported = Pattern.compile("import java\\.util\\.(Arrays|NoSuchElementException);");
        for (int k = 0; k < lines.size(); k++) {
            String line = lines.get(k);
            Matcher found = wrong.matcher(line);
            Check.due("line " + (k + 1) + ": " + line, found.find() && !line.trim().startsWith("*"), false);
            Check.due("rule 4, line " + (k + 1) + ": " + line, library.matcher(line).find(), false);
            Check.due("line " + (k + 1) + ": " + line, line.startsWith("import") && !imported.matcher(line).matches(), false);
            Check.due("line " + (k + 1) + " has signs 32 to 126", line.matches("[ -~]*"), true);
        }
    }

    /** A method of the file begins at depth 1 or 2 and ends where the braces are closed again. */
    private static void lengths(List<String> lines) {
        Pattern head = Pattern.compile("^( {4}| {8})(?! )(?!if|for|while|switch)[a-zA-Z\\[\\] ]+\\([^;]*\\)( throws \\w+)? \\{$");
        for (int k = 0; k < lines.size(); k++) {
            Matcher found = head.matcher(lines.get(k));
            if (found.matches()) {
                int end = k;
                while (!lines.get(end).equals(found.group(1) + "}")) {
                    end++;
                }
                Check.due("rule 11: the length of " + lines.get(k).trim(), end - k < 60, true);
            }
        }
    }
}
