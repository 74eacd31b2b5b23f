import java.lang.reflect.Constructor;
import java.lang.reflect.Field;
import java.lang.reflect.Method;
import java.lang.reflect.Modifier;
import java.util.Arrays;
import java.util.Set;
import java.util.TreeSet;

/** The public face of the document, and rules 1 and 5 of LANGUAGE.md. */
public final class FaceTest {
    private static final Set<String> METHODS = Set.of("word(2)", "seat(1)", "lend(3)", "set(2)", "seed(1)", "begin(1)",
        "guess(1)", "tell(1)", "whisper(3)", "wordOf(2)", "playerOf(2)", "open(1)", "round(2)", "count(1)", "fits(1)",
        "letterOf(2)", "sharpest(0)", "next(0)", "keep(0)", "restore(0)", "undo(0)", "type(1)", "clearText(0)",
        "fault(1)", "read(0)");

    public static void main(String[] args) {
        constants();
        methods();
        noOtherMembers();
        insideClasses();
        Checks.finish();
    }

    private static void constants() {
        Checks.due("INVALID_ARGUMENT", GuessingHall.INVALID_ARGUMENT, -1);
        Checks.due("NOT_POSSIBLE", GuessingHall.NOT_POSSIBLE, -2);
        Checks.due("LIMIT_REACHED", GuessingHall.LIMIT_REACHED, -3);
        Checks.due("NOT_FOUND", GuessingHall.NOT_FOUND, -4);
    }

    private static boolean isPrivate(int modifiers) {
        return Modifier.isPrivate(modifiers);
    }

    private static void methods() {
        Set<String> found = new TreeSet<>();
        for (Method method : GuessingHall.class.getDeclaredMethods()) {
            if (isPrivate(method.getModifiers())) {
                continue;
            }
            found.add(method.getName() + "(" + method.getParameterCount() + ")");
            Checks.isTrue(method + " is public", Modifier.isPublic(method.getModifiers()));
            Checks.isTrue(method + " is of an object", !Modifier.isStatic(method.getModifiers()));
            Checks.isTrue(method + " answers int", method.getReturnType() == int.class);
            Checks.isTrue(method + " takes int alone",
                Arrays.stream(method.getParameterTypes()).allMatch(kind -> kind == int.class));
        }
        Checks.isTrue("the methods are those of the document: " + found, found.equals(METHODS));
    }

    private static void noOtherMembers() {
        Checks.isTrue("the class is public and final",
            Modifier.isPublic(GuessingHall.class.getModifiers()) && Modifier.isFinal(GuessingHall.class.getModifiers()));
        Constructor<?>[] constructors = GuessingHall.class.getDeclaredConstructors();
        Checks.due("constructors", constructors.length, 1);
        Checks.isTrue("the constructor is public", Modifier.isPublic(constructors[0].getModifiers()));
        Checks.due("arguments of the constructor", constructors[0].getParameterCount(), 0);
        int notPrivate = 0;
        for (Field field : GuessingHall.class.getDeclaredFields()) {
            notPrivate += isPrivate(field.getModifiers()) ? 0 : 1;
        }
        Checks.due("fields that are not private", notPrivate, 4);
    }

    private static void insideClasses() {
        Class<?>[] inside = GuessingHall.class.getDeclaredClasses();
        Checks.isTrue("at most some twelve classes", inside.length < 12);
        for (Class<?> one : inside) {
            Checks.isTrue(one + " is static", Modifier.isStatic(one.getModifiers()));
            Checks.isTrue(one + " is not public", !Modifier.isPublic(one.getModifiers()));
            noNameOfTheFace(one);
            fieldsOf(one);
        }
        noNameOfTheFace(GuessingHall.class);
        fieldsOf(GuessingHall.class);
    }

    private static void noNameOfTheFace(Class<?> one) {
        for (Method method : one.getDeclaredMethods()) {
            boolean isOfTheFace = one == GuessingHall.class && !isPrivate(method.getModifiers());
            boolean bearsName = METHODS.stream().anyMatch(name -> name.startsWith(method.getName() + "("));
            Checks.isTrue(method + " bears no name of the face", isOfTheFace || !bearsName);
        }
    }

    private static void fieldsOf(Class<?> one) {
        int objectFields = 0;
        for (Field field : one.getDeclaredFields()) {
            boolean isStatic = Modifier.isStatic(field.getModifiers());
            objectFields += isStatic ? 0 : 1;
            Checks.isTrue(field + " is final, if it is static", !isStatic || Modifier.isFinal(field.getModifiers()));
        }
        Checks.isTrue(one + " has at most some twenty fields", objectFields <= 20);
    }
}
