import java.lang.reflect.Constructor;
import java.lang.reflect.Field;
import java.lang.reflect.Method;
import java.lang.reflect.Modifier;
import java.util.Arrays;
import java.util.TreeSet;

/** The class shows the face of the document, and nothing else. */
public final class FaceTest {
    private static final String I = " IndexOutOfBoundsException";
    private static final String A = " IllegalArgumentException";
    private static final String S = " IllegalStateException";
    private static final String N = " NoSuchElementException";
    private static final String M = " ArithmeticException";

    private static final String[] FACE = {
        "int addPlace()" + S,
        "int addLink(int,int,int,int)" + I + A + S,
        "int block(int)" + I + S,
        "int open(int)" + I + S,
        "int post(int,int,int,int)" + I + A + S,
        "int send(int,int)" + N + I + S,
        "int addStamps(int,int)" + N + A + S,
        "int takeBack(int)" + N + S,
        "int dispatch()",
        "int pass(int)" + A,
        "int hour()",
        "int placeCount()",
        "int linkCount()",
        "int linkFrom(int)" + I,
        "int linkTo(int)" + I,
        "int travelTime(int)" + I,
        "boolean isBlocked(int)" + I,
        "boolean isOpenAt(int,int)" + I + A,
        "int loadOf(int)" + I,
        "int busiestLink()" + N,
        "int degree(int)" + I,
        "int parcelCount()",
        "int idAt(int)" + I,
        "boolean isTravelling(int)" + N,
        "int placeOf(int)" + N,
        "int linkOf(int)" + N,
        "int arrivalOf(int)" + N,
        "int destinationOf(int)" + N,
        "int weightOf(int)" + N,
        "int stampsOf(int)" + N,
        "int waitingIn(int)" + I,
        "int earliestArrival(int,int,int)" + I + A + N,
        "int earliestArrivalByHours(int,int,int)" + I + A + N,
        "int fewestLinks(int,int)" + I + N,
        "int reachable(int)" + I,
        "int forecast(int)" + N,
        "int nextLink(int)" + N,
        "boolean canSend(int,int)" + N + I,
        "int stampsMissing(int)" + N,
        "int parcelByForecast(int)" + N,
        "int arrivalsWithin(int)" + A,
        "int deliveredIf(int)" + A,
        "int postedTotal()",
        "int deliveredTotal()",
        "int takenBackTotal()",
        "int usedStamps()",
        "double meanStamps()" + M,
        "float blockedShare()" + M,
        "boolean isConsistent()",
        "int formatParcel(int)" + N,
        "int formatLink(int)" + I,
        "char lineChar(int)" + I,
        "int append(char)" + A + S,
        "int run()" + A + S,
        "int errorPosition()" + N,
        "int failedCommand()" + N,
        "int undoableCount()",
        "int undo()" + S,
        "int save()",
        "int restore()" + S,
    };

    public static void main(String[] args) {
        Checks checks = new Checks();
        Class<?> face = RiverParcelService.class;
        checks.due("the class is public and final", Modifier.PUBLIC | Modifier.FINAL,
                face.getModifiers() & (Modifier.PUBLIC | Modifier.FINAL | Modifier.ABSTRACT));
        checks.due("the methods of the face", new TreeSet<>(Arrays.asList(FACE)), methodsOf(face));
        checks.due("constructors", 1, face.getDeclaredConstructors().length);
        for (Constructor<?> constructor : face.getDeclaredConstructors()) {
            checks.due("the constructor is public", true, Modifier.isPublic(constructor.getModifiers()));
            checks.due("the constructor's parameters", 0, constructor.getParameterCount());
        }
        for (Field field : face.getDeclaredFields()) {
            checks.due(field + " is private", true, Modifier.isPrivate(field.getModifiers()));
        }
        checkPrivateNames(checks, face);
        checks.end();
    }

    private static TreeSet<String> methodsOf(Class<?> face) {
        TreeSet<String> found = new TreeSet<>();
        for (Method method : face.getDeclaredMethods()) {
            if (!Modifier.isPrivate(method.getModifiers())) {
                found.add(textOf(method));
            }
        }
        return found;
    }

    private static String textOf(Method method) {
        StringBuilder text = new StringBuilder();
        text.append(method.getReturnType()).append(' ').append(method.getName()).append('(');
        String comma = "";
        for (Class<?> type : method.getParameterTypes()) {
            text.append(comma).append(type);
            comma = ",";
        }
        text.append(')');
        for (Class<?> type : method.getExceptionTypes()) {
            text.append(' ').append(type.getSimpleName());
        }
        return text.toString();
    }

    private static void checkPrivateNames(Checks checks, Class<?> face) {
        TreeSet<String> names = new TreeSet<>();
        for (Method method : face.getDeclaredMethods()) {
            if (Modifier.isPublic(method.getModifiers())) {
                names.add(method.getName());
            }
        }
        for (Method method : face.getDeclaredMethods()) {
            if (Modifier.isPrivate(method.getModifiers())) {
                checks.due(method + " bears a public name", false, names.contains(method.getName()));
            }
        }
        for (Class<?> inner : face.getDeclaredClasses()) {
            checks.due(inner + " is static", true, Modifier.isStatic(inner.getModifiers()));
            for (Method method : inner.getDeclaredMethods()) {
                checks.due(method + " bears a public name", false, names.contains(method.getName()));
            }
        }
    }
}
