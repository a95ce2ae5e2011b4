import java.io.IOException;
import java.lang.reflect.Field;
import java.lang.reflect.Method;
import java.lang.reflect.Modifier;
import java.nio.file.Files;
import java.nio.file.Path;
import java.util.regex.Matcher;
import java.util.regex.Pattern;

/** The calls shown in README.md answer what is written beside them, and none of the face is left out. */
public final class ReadmeTest {
    private static final Path README = Path.of("README.md");
    private static final Pattern MAKING = Pattern.compile("new EligibleDeadline\\((\\d+), (\\d+), (\\d+)\\)");
    private static final Pattern CALL = Pattern.compile("shares\\.(\\w+)\\((.*?)\\); +// ([^:]*)(:.*)?");

    public static void main(String[] args) throws IOException, ReflectiveOperationException {
        String text = Files.readString(README);
        int from = text.indexOf("```java\n") + "```java\n".length();
        shownCalls(text.substring(from, text.indexOf("```", from)).split("\n"));
        everythingIsNamed(text);
        Due.end();
    }

    private static void shownCalls(String[] lines) throws ReflectiveOperationException {
        Matcher making = MAKING.matcher(lines[0]);
        Due.is("the first line makes the object", making.find(), true);
        EligibleDeadline shares = new EligibleDeadline(
            Integer.parseInt(making.group(1)), Integer.parseInt(making.group(2)), Integer.parseInt(making.group(3)));
        for (int i = 1; i < lines.length; i++) {
            Matcher call = CALL.matcher(lines[i]);
            if (call.matches()) {
                Due.is(lines[i], answer(shares, call.group(1), call.group(2)), number(call.group(3)));
            } else {
                Due.same("a line without a call", lines[i], "");
            }
        }
    }

    private static long answer(EligibleDeadline shares, String name, String arguments) throws ReflectiveOperationException {
        Method method = methodOf(name);
        Class<?>[] types = method.getParameterTypes();
        String[] texts = arguments.isEmpty() ? new String[0] : arguments.split(", ");
        Object[] values = new Object[types.length];
        for (int i = 0; i < types.length; i++) {
            long value = number(texts[i]);
            values[i] = types[i] == int.class ? (Object) (int) value : (Object) value;
        }
        Object answer = method.invoke(shares, values);
        return answer instanceof Boolean truth ? (truth ? 1 : 0) : ((Number) answer).longValue();
    }

    private static Method methodOf(String name) throws NoSuchMethodException {
        for (Method method : EligibleDeadline.class.getDeclaredMethods()) {
            if (method.getName().equals(name)) {
                return method;
            }
        }
        throw new NoSuchMethodException(name);
    }

    /** A sum or difference, like UNIT - UNIT / 3, of numbers, names and such parts of them. */
    private static long number(String text) throws ReflectiveOperationException {
        long sum = 0;
        for (String part : text.replace(" - ", " + -").split(" \\+ ")) {
            String[] division = part.split(" / ");
            sum += word(division[0]) / (division.length > 1 ? word(division[1]) : 1);
        }
        return sum;
    }

    private static long word(String text) throws ReflectiveOperationException {
        if (text.startsWith("-")) {
            return -word(text.substring(1));
        }
        if (text.equals("true") || text.equals("false")) {
            return text.equals("true") ? 1 : 0;
        }
        if (text.matches("\\d+")) {
            return Long.parseLong(text);
        }
        return EligibleDeadline.class.getField(text.replace("EligibleDeadline.", "")).getLong(null);
    }

    private static void everythingIsNamed(String text) {
        for (Field field : EligibleDeadline.class.getFields()) {
            Due.is(field.getName() + " is named", text.contains("`" + field.getName() + "`"), true);
        }
        for (Method method : EligibleDeadline.class.getDeclaredMethods()) {
            if (Modifier.isPublic(method.getModifiers())) {
                Due.is(method.getName() + " has a row", text.contains("| `" + method.getName() + "("), true);
                Due.is(method.getName() + " is shown", text.contains("shares." + method.getName() + "("), true);
            }
        }
    }
}
