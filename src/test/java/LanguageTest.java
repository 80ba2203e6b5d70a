import java.io.IOException;
import java.lang.reflect.Field;
import java.lang.reflect.Method;
import java.lang.reflect.Modifier;
import java.nio.file.Files;
import java.nio.file.Path;
import java.util.ArrayList;
import java.util.List;
import java.util.regex.Matcher;
import java.util.regex.Pattern;

/** The program keeps to those rules of ../shared/LANGUAGE.md that can be seen from its words and its members. */
public final class LanguageTest {
    private static final Path PROGRAM = Path.of("src", "main", "java", "SilentRent.java");
    private static final Due due = new Due("LanguageTest");

    public static void main(String[] args) throws IOException {
        String code = withoutComments(Files.readString(PROGRAM));
        words(code);
        library(code);
        objects(code);
        lengths(code);
        List<Class<?>> all = new ArrayList<>(List.of(SilentRent.class.getDeclaredClasses()));
        due.is("rule 11: how many classes are above twelve", Math.max(0, all.size() - 12), 0);
        all.add(SilentRent.class);
        for (Class<?> c : all) {
            members(c);
        }
        due.end();
    }

    private static String withoutComments(String code) {
        return code.replaceAll("(?s)/\\*.*?\\*/", "").replaceAll("//[^\n]*", "");
    }

    private static void none(String rule, String code, String pattern) {
        Matcher m = Pattern.compile(pattern).matcher(code);
        due.is(rule + ", none of " + pattern, m.find() ? 1 : 0, 0);
    }

    private static void words(String code) {
        none("rule 1", code, "\\b(package|protected)\\b");
        none("rule 2", code, "->|::");
        none("rule 3", code, "\"|\\b(String|Object|Integer\\s+\\w+\\s*[;=])");
        none("rule 6", code, "\\b(throw|throws|try|catch|finally|synchronized|assert|instanceof|equals|hashCode|toString)\\b");
        none("rule 12", code, "@|\\bnative\\b|\\bvolatile\\b|\\btransient\\b");
    }

    /** Whose static functions are asked, and that nothing else is brought in. */
    private static void library(String code) {
        Matcher brought = Pattern.compile("\\bimport\\s+([^;]+);").matcher(code);
        while (brought.find()) {
            due.is("rule 4, import " + brought.group(1), brought.group(1).equals("java.util.Arrays") ? 1 : 0, 1);
        }
        List<String> known = List.of("Arrays.fill", "Integer.bitCount", "Math.max", "Math.min", "System.arraycopy");
        Matcher asked = Pattern.compile("\\b([A-Z]\\w*\\.[a-z]\\w*)\\(").matcher(code);
        while (asked.find()) {
            due.is("rule 4, " + asked.group(1), known.contains(asked.group(1)) ? 1 : 0, 1);
        }
    }

    /** All rows are made by fields or constructors: no call makes an object, so that a run stays small. */
    private static void objects(String code) {
        Pattern field = Pattern.compile("(private )?(final )?[A-Z]?\\w+(\\[\\]){0,2} \\w+ = new [^;]+;");
        List<String> filled = List.of("images[i] = new Image();", "steps[i] = new Now();");
        for (String line : code.split("\n")) {
            if (line.contains("new ")) {
                String made = line.trim();
                // Fields stand four signs in, those of the classes inside eight; what a method holds stands deeper.
                boolean ofAField = field.matcher(made).matches() && (line.indexOf(made) == 4 || made.startsWith("final ") || made.startsWith("private final "));
                due.is("rule 12, " + made, ofAField || filled.contains(made) ? 1 : 0, 1);
            }
        }
    }

    /** A method begins with a line that ends in { and is closed by a brace as far in as it began. */
    private static void lengths(String code) {
        String[] lines = code.split("\n");
        Pattern head = Pattern.compile("( {4}| {8})(public |private )?(static )?[\\w\\[\\]]+ ?\\w*\\([^)]*\\) \\{");
        int methods = 0;
        for (int i = 0; i < lines.length; i++) {
            Matcher m = head.matcher(lines[i]);
            if (m.matches()) {
                methods++;
                int end = i;
                while (!lines[end].equals(m.group(1) + "}")) {
                    end++;
                }
                due.is("rule 11: lines above sixty of " + lines[i].trim(), Math.max(0, end - i + 1 - 60), 0);
            }
        }
        due.is("methods were found", methods > 100 ? 1 : 0, 1);
    }

    private static void members(Class<?> c) {
        int fields = 0;
        for (Field f : c.getDeclaredFields()) {
            if (Modifier.isStatic(f.getModifiers())) {
                due.is("rule 5, " + f, Modifier.isFinal(f.getModifiers()) && f.getType().isPrimitive() ? 1 : 0, 1);
            } else {
                fields++;
            }
        }
        due.is("rule 11: fields above twenty of " + c, Math.max(0, fields - 20), 0);
        for (Method m : c.getDeclaredMethods()) {
            due.is("rule 11: parameters above seven of " + m, Math.max(0, m.getParameterCount() - 7), 0);
        }
        if (c != SilentRent.class) {
            int wanted = Modifier.PRIVATE | Modifier.STATIC;
            due.is("rule 2, " + c, c.getModifiers() & wanted, wanted);
        }
    }
}
