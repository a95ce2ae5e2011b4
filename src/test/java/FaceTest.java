import java.lang.reflect.Constructor;
import java.lang.reflect.Field;
import java.lang.reflect.Method;
import java.lang.reflect.Modifier;
import java.util.Set;
import java.util.TreeSet;

/** The public face: every constant, the constructor and every method of the document, and no more. */
public final class FaceTest {
    private static final Set<String> CONSTANTS = Set.of(
        "public static final long UNIT = 144403552893600",
        "public static final long NO_VALUE = 1000000000000000000",
        "public static final int OK = 0",
        "public static final int DEFERRED = 1",
        "public static final int NONE = -1",
        "public static final int BAD_CLIENT = -2",
        "public static final int BAD_WEIGHT = -3",
        "public static final int PRESENT = -4",
        "public static final int ABSENT = -5",
        "public static final int FULL = -6",
        "public static final int LAGGING = -7",
        "public static final int ALREADY = -8",
        "public static final int NOT_LEAVING = -9",
        "public static final int BAD_COUNT = -10");

    private static final Set<String> METHODS = Set.of(
        "public int EligibleDeadline.join(int,int)",
        "public int EligibleDeadline.leave(int)",
        "public int EligibleDeadline.stay(int)",
        "public int EligibleDeadline.reweigh(int,int)",
        "public int EligibleDeadline.run(int)",
        "public int EligibleDeadline.next()",
        "public int EligibleDeadline.bestWithin(long)",
        "public int EligibleDeadline.eligible()",
        "public long EligibleDeadline.lag(int)",
        "public long EligibleDeadline.deadline(int)",
        "public int EligibleDeadline.weight(int)",
        "public int EligibleDeadline.served(int)",
        "public boolean EligibleDeadline.leaving(int)",
        "public int EligibleDeadline.totalWeight()",
        "public int EligibleDeadline.clock()",
        "public int EligibleDeadline.ranAt(int)");

    private static final Class<?> FACE = EligibleDeadline.class;

    public static void main(String[] args) {
        Due.sentence("The public face: a public final class without nested ones", FaceTest::classAlone);
        Due.sentence("The public face: the constants, and no other field that is open", () ->
            Due.same("the constants", openFields(), new TreeSet<>(CONSTANTS)));
        Due.sentence("The public face: the methods, and no other that is open", () ->
            Due.same("the methods", openMethods(), new TreeSet<>(METHODS)));
        Due.sentence("The public face: the constructor, and no other", () ->
            Due.same("the constructors", constructors(), Set.of("public EligibleDeadline(int,int,int)")));
        Due.end();
    }

    private static void classAlone() {
        Due.same("the class", Modifier.toString(FACE.getModifiers()), "public final");
        Due.same("its name", FACE.getName(), "EligibleDeadline");
        Due.is("the nested classes", FACE.getDeclaredClasses().length, 0);
        Due.is("it is below another class", FACE.getSuperclass() != Object.class, false);
        Due.is("its interfaces", FACE.getInterfaces().length, 0);
    }

    private static Set<String> openFields() {
        Set<String> found = new TreeSet<>();
        for (Field field : FACE.getDeclaredFields()) {
            if (!Modifier.isPrivate(field.getModifiers())) {
                found.add(Modifier.toString(field.getModifiers()) + " " + field.getType() + " " + field.getName() + value(field));
            }
        }
        return found;
    }

    private static String value(Field field) {
        try {
            return Modifier.isStatic(field.getModifiers()) ? " = " + field.get(null) : "";
        } catch (IllegalAccessException hidden) {
            return " hidden";
        }
    }

    private static Set<String> openMethods() {
        Set<String> found = new TreeSet<>();
        for (Method method : FACE.getDeclaredMethods()) {
            if (!Modifier.isPrivate(method.getModifiers())) {
                found.add(method.toString());
            }
        }
        return found;
    }

    private static Set<String> constructors() {
        Set<String> found = new TreeSet<>();
        for (Constructor<?> constructor : FACE.getDeclaredConstructors()) {
            found.add(constructor.toString());
        }
        return found;
    }
}
