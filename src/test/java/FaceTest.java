import java.lang.reflect.Constructor;
import java.lang.reflect.Field;
import java.lang.reflect.Method;
import java.lang.reflect.Modifier;
import java.util.Set;
import java.util.TreeSet;

/** The public face: every constant, the constructor and every method of the document, and no more. */
public final class FaceTest {
    private static final Set<String> CONSTANTS = Set.of(
        "public static final long UNIT = 144403552893600",
        "public static final long NO_VALUE = 1000000000000000000",
        "public static final int OK = 0",
        "public static final int DEFERRED = 1",
        "public static final int NONE = -1",
        "public static final int BAD_CLIENT = -2",
        "public static final int BAD_WEIGHT = -3",
        "public static final int PRESENT = -4",
        "public static final int ABSENT = -5",
        "public static final int FULL = -6",
        "public static final int LAGGING = -7",
        "public static final int ALREADY = -8",
        "public static final int NOT_LEAVING = -9",
        "public static final int BAD_COUNT = -10");

    private static final Set<String> METHODS = Set.of(
        "public int EligibleDeadline.join(int,int)",
        "public int EligibleDeadline.leave(int)",
        "public int EligibleDeadline.stay(int)",
        "public int EligibleDeadline.reweigh(int,int)",
        "public int EligibleDeadline.run(int)",
        "public int EligibleDeadline.next()",
        "public int EligibleDeadline.bestWithin(long)",
        "public int EligibleDeadline.eligible()",
        "public long EligibleDeadline.lag(int)",
        "public long EligibleDeadline.deadline(int)",
        "public int EligibleDeadline.weight(int)",
        "public int EligibleDeadline.served(int)",
        "public boolean EligibleDeadline.leaving(int)",
        "public int EligibleDeadline.totalWeight()",
        "public int EligibleDeadline.clock()",
        "public int EligibleDeadline.ranAt(int)");

    public static void main(String[] args) throws IllegalAccessException {
        Class<?> face = EligibleDeadline.class;
        Due.same("the class", Modifier.toString(face.getModifiers()), "public final");
        Due.same("the constants", openFields(face), new TreeSet<>(CONSTANTS));
        Due.same("the methods", openMethods(face), new TreeSet<>(METHODS));
        Due.same("the constructors", constructors(face), Set.of("public EligibleDeadline(int,int,int)"));
        Due.is("the nested classes", face.getDeclaredClasses().length, 0);
        unitIsDivisible();
        Due.end();
    }

    private static Set<String> openFields(Class<?> face) throws IllegalAccessException {
        Set<String> found = new TreeSet<>();
        for (Field field : face.getDeclaredFields()) {
            if (!Modifier.isPrivate(field.getModifiers())) {
                String value = Modifier.isStatic(field.getModifiers()) ? " = " + field.get(null) : "";
                found.add(Modifier.toString(field.getModifiers()) + " " + field.getType() + " " + field.getName() + value);
            }
        }
        return found;
    }

    private static Set<String> openMethods(Class<?> face) {
        Set<String> found = new TreeSet<>();
        for (Method method : face.getDeclaredMethods()) {
            if (!Modifier.isPrivate(method.getModifiers())) {
                found.add(method.toString());
            }
        }
        return found;
    }

    private static Set<String> constructors(Class<?> face) {
        Set<String> found = new TreeSet<>();
        for (Constructor<?> constructor : face.getDeclaredConstructors()) {
            found.add(constructor.toString());
        }
        return found;
    }

    private static void unitIsDivisible() {
        for (int divisor = 1; divisor <= 36; divisor++) {
            Due.is("UNIT % " + divisor, EligibleDeadline.UNIT % divisor, 0);
        }
    }
}
