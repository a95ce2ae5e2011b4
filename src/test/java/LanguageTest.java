import java.io.IOException;
import java.lang.reflect.Field;
import java.lang.reflect.Method;
import java.lang.reflect.Modifier;
import java.nio.file.Files;
import java.nio.file.Path;
import java.util.HashSet;
import java.util.Set;
import java.util.regex.Matcher;
import java.util.regex.Pattern;

/** Those rules of LANGUAGE.md that a look at the words and the members of the class can tell. */
public final class LanguageTest {
    private static final Path SOURCE = Path.of("src/main/java/EligibleDeadline.java");

    private static final Set<String> BARRED_WORDS = Set.of(
        "package", "import", "float", "double", "String", "Object", "Math", "Integer", "Long", "System", "Arrays",
        "null", "throw", "throws", "try", "catch", "finally", "synchronized", "assert", "instanceof", "enum",
        "interface", "record", "extends", "implements", "protected", "var", "yield", "goto", "length");

    private static final Set<Class<?>> FIELD_TYPES = Set.of(
        int.class, long.class, short.class, byte.class, char.class, boolean.class,
        int[].class, long[].class, short[].class, byte[].class, char[].class, boolean[].class);

    public static void main(String[] args) throws IOException {
        String code = withoutComments(Files.readString(SOURCE));
        noBarredWord(code);
        Due.is("lambdas and method references", code.contains("->") || code.contains("::"), false);
        Due.is("texts and characters", code.contains("\"") || code.contains("'"), false);
        Due.is("classes in the file", count(code, "\\bclass\\b"), 1);
        Due.is("array makings outside field initialisers", count(code, "\\bnew\\b")
            - count(code, "(?m)^    private final \\w+\\[\\] \\w+ = new \\w+\\[\\w+\\];$"), 0);
        fieldsKeepToTheRules();
        privateMethodsHaveNamesOfTheirOwn();
        Due.end();
    }

    private static void noBarredWord(String code) {
        Matcher words = Pattern.compile("[A-Za-z_][A-Za-z_0-9]*").matcher(code);
        while (words.find()) {
            Due.is("barred word " + words.group(), BARRED_WORDS.contains(words.group()), false);
        }
    }

    private static void fieldsKeepToTheRules() {
        int fields = 0;
        for (Field field : EligibleDeadline.class.getDeclaredFields()) {
            Due.is("type of " + field.getName(), FIELD_TYPES.contains(field.getType()), true);
            if (Modifier.isStatic(field.getModifiers())) {
                boolean number = field.getType() == int.class || field.getType() == long.class;
                Due.is("static " + field.getName(), number && Modifier.isFinal(field.getModifiers()), true);
            } else {
                fields++;
            }
        }
        Due.is("more than forty fields", fields > 40, false);
    }

    private static void privateMethodsHaveNamesOfTheirOwn() {
        Set<String> open = new HashSet<>();
        for (Method method : EligibleDeadline.class.getMethods()) {
            open.add(method.getName());
        }
        for (Method method : EligibleDeadline.class.getDeclaredMethods()) {
            if (Modifier.isPrivate(method.getModifiers())) {
                Due.is("private " + method.getName(), open.contains(method.getName()), false);
            }
            Due.is("more than seven parameters of " + method.getName(), method.getParameterCount() > 7, false);
        }
    }

    private static String withoutComments(String source) {
        return source.replaceAll("(?s)/\\*.*?\\*/", "").replaceAll("//[^\n]*", "");
    }

    private static int count(String code, String pattern) {
        Matcher found = Pattern.compile(pattern).matcher(code);
        int sum = 0;
        while (found.find()) {
            sum++;
        }
        return sum;
    }
}
