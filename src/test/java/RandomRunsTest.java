import java.lang.reflect.InvocationTargetException;
import java.lang.reflect.Method;
import java.util.ArrayList;
import java.util.Arrays;
import java.util.List;
import java.util.Random;

/** Long runs of calls with fixed seeds, each answered by the service and by Model alike. */
public final class RandomRunsTest {
    private static final int RUNS = 600;
    private static final int CALLS = 512;
    private static final int[] WILD = {-1, 0, 1, 2, 9, 10, 12, 20, 21, 60, 61, 120, 121, 9999, 10000,
        Integer.MIN_VALUE, Integer.MAX_VALUE};

    private final Random random;
    private final RiverParcelService service = new RiverParcelService();
    private final Model model = new Model();
    private final List<String> told = new ArrayList<>();
    private int differences = 0;

    private RandomRunsTest(long seed) {
        random = new Random(seed);
    }

    public static void main(String[] args) throws IllegalAccessException {
        int wrong = 0;
        int calls = 0;
        for (int seed = 0; seed < RUNS && wrong < 3; seed++) {
            RandomRunsTest run = new RandomRunsTest(seed);
            run.goOn();
            calls += run.told.size();
            if (run.differences > 0) {
                wrong++;
                System.out.println("seed " + seed);
                run.told.forEach(call -> System.out.println("  " + call));
            }
        }
        System.out.println(RUNS + " runs, " + calls + " calls, " + wrong + " runs with another answer");
        if (wrong > 0 || calls == 0) {
            System.exit(1);
        }
    }

    private void goOn() throws IllegalAccessException {
        List<Method> questions = new ArrayList<>(Arrays.asList(RiverParcelService.class.getDeclaredMethods()));
        questions.removeIf(m -> !java.lang.reflect.Modifier.isPublic(m.getModifiers()));
        questions.sort((a, b) -> a.getName().compareTo(b.getName()));
        int places = 2 + random.nextInt(8);
        for (int i = 0; i < places; i++) {
            call("addPlace");
        }
        int links = places + random.nextInt(21 - places);
        boolean ring = random.nextInt(3) != 0;
        for (int i = 0; i < links; i++) {
            int from = ring && i < places ? i : below(places);
            int to = ring && i < places ? (i + 1) % places : below(places);
            call("addLink", from, to, 1 + below(9), below(6));
        }
        while (told.size() < CALLS && differences == 0) {
            int kind = below(10);
            if (kind < 4) {
                changeSomething();
            } else if (kind == 4 && told.size() < CALLS - 70) {
                runProgram();
            } else {
                Method method = questions.get(below(questions.size()));
                if (!method.getName().equals("block")) {
                    call(method.getName(), argumentsFor(method));
                }
            }
        }
    }

    private int below(int bound) {
        return bound <= 0 ? 0 : random.nextInt(bound);
    }

    private int place() {
        return below(model.placeCount() + (below(12) == 0 ? 1 : 0));
    }

    private int link() {
        return below(model.linkCount() + (below(12) == 0 ? 1 : 0));
    }

    private int id() {
        int count = model.parcelCount();
        return count == 0 || below(12) == 0 ? below(model.postedTotal() + 2) - 1 : model.idAt(below(count));
    }

    private void changeSomething() throws IllegalAccessException {
        switch (below(14)) {
            case 0, 1, 2 -> call("post", place(), place(), 1 + below(9), below(21));
            case 3, 4, 5 -> call("dispatch");
            case 6, 7, 8 -> call("pass", 1 + below(below(6) == 0 ? 120 : 4));
            case 9 -> blockOrOpen();
            case 10 -> call("send", id(), link());
            case 11 -> call(below(8) == 0 ? "addPlace" : "undo");
            case 12 -> call("addStamps", id(), 1 + below(5));
            default -> call(below(2) == 0 ? "takeBack" : "nextLink", id());
        }
    }

    /** Mostly ends a blocking that there is, so that the network does not fall apart. */
    private void blockOrOpen() throws IllegalAccessException {
        int link = link();
        for (int i = 0; i < model.linkCount() && below(8) != 0; i++) {
            link = model.isBlocked(i) ? i : link;
        }
        boolean blocked = link < model.linkCount() && model.isBlocked(link);
        call(blocked == (below(8) != 0) ? "open" : "block", link);
    }

    private Object[] argumentsFor(Method method) {
        Class<?>[] types = method.getParameterTypes();
        Object[] given = new Object[types.length];
        for (int i = 0; i < given.length; i++) {
            given[i] = types[i] == char.class ? (Object) (char) (30 + below(100)) : (Object) number(method, i);
        }
        return given;
    }

    private int number(Method method, int position) {
        if (below(8) == 0) {
            return WILD[below(WILD.length)];
        }
        Class<?> first = method.getExceptionTypes().length > 0 ? method.getExceptionTypes()[0] : Object.class;
        String name = method.getName();
        if (position == 0 && first == java.util.NoSuchElementException.class) {
            return id();
        }
        if (name.startsWith("earliest") && position == 2 || name.equals("isOpenAt") && position == 1) {
            return below(10000);
        }
        if (name.equals("canSend") || name.equals("send") || name.contains("ink")) {
            return name.equals("fewestLinks") ? place() : link();
        }
        if (name.equals("arrivalsWithin") || name.equals("deliveredIf")) {
            return 1 + below(60);
        }
        return name.equals("lineChar") ? below(17) : below(9);
    }

    private void runProgram() throws IllegalAccessException {
        StringBuilder text = new StringBuilder();
        int commands = 1 + below(below(3) == 0 ? 10 : 4);
        for (int i = 0; i < commands && text.length() < 55; i++) {
            text.append(i == 0 ? "" : ";").append(command());
        }
        if (below(3) == 0 && text.length() > 0) {
            spoil(text);
        }
        for (int i = 0; i < text.length(); i++) {
            call("append", text.charAt(i));
        }
        call("run");
        call("errorPosition");
        call("failedCommand");
    }

    private String command() {
        return switch (below(13)) {
            case 0 -> "place";
            case 1 -> "link " + place() + place() + " " + below(10) + "/" + below(7);
            case 2 -> "block " + link();
            case 3 -> "open " + link();
            case 4, 5 -> "post " + place() + place() + " " + below(10) + "*" + below(22);
            case 6 -> "send " + id(0) + " " + link();
            case 7 -> "stamp " + id(0) + " " + below(9);
            case 8 -> "return " + id(0);
            case 9, 10 -> "dispatch";
            case 11 -> "hours " + below(5);
            default -> "hours";
        };
    }

    private int id(int least) {
        return Math.max(least, id());
    }

    private void spoil(StringBuilder text) {
        int at = below(text.length());
        char sign = "0123456789 ;/*placehourstdin".charAt(below(28));
        switch (below(4)) {
            case 0 -> text.setLength(at);
            case 1 -> text.deleteCharAt(at);
            case 2 -> text.insert(at, sign);
            default -> text.setCharAt(at, sign);
        }
    }

    private void call(String name, Object... given) throws IllegalAccessException {
        Object got = answerOf(service, name, given);
        Object want = answerOf(model, name, given);
        boolean same = want.equals(got);
        told.add(name + Arrays.toString(given) + " = " + got + (same ? "" : ", due is " + want));
        differences += same ? 0 : 1;
    }

    private static Object answerOf(Object target, String name, Object[] given) throws IllegalAccessException {
        for (Method method : target.getClass().getMethods()) {
            if (method.getName().equals(name) && method.getParameterCount() == given.length) {
                try {
                    return method.invoke(target, given);
                } catch (InvocationTargetException thrown) {
                    return thrown.getCause().getClass().getSimpleName();
                }
            }
        }
        return "no method " + name;
    }
}
