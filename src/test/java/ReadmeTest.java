import java.io.IOException;
import java.lang.reflect.Method;
import java.lang.reflect.Modifier;
import java.nio.file.Files;
import java.nio.file.Path;
import java.util.Arrays;
import java.util.TreeSet;
import java.util.regex.Matcher;
import java.util.regex.Pattern;

/** What README.md says of the class and of the tests is so. */
public final class ReadmeTest {
    private static final Checks CHECKS = new Checks();

    private final String text;

    private ReadmeTest(String text) {
        this.text = text;
    }

    public static void main(String[] args) throws IOException {
        ReadmeTest readme = new ReadmeTest(Files.readString(Path.of("README.md")));
        readme.exampleAnswers();
        readme.programRuns();
        readme.everyMethodIsNamed();
        readme.everyTestIsNamed();
        CHECKS.end();
    }

    /** The number that the comment behind this code begins with. */
    private Object toldFor(String code) {
        Matcher line = Pattern.compile(Pattern.quote(code) + " +// (\\d+)\\b").matcher(text);
        return line.find() ? (Object) Integer.valueOf(line.group(1)) : "nothing";
    }

    private void exampleAnswers() {
        RiverParcelService service = new RiverParcelService();
        CHECKS.due("from", toldFor("int from = service.addPlace();"), service.addPlace());
        CHECKS.due("to", toldFor("int to = service.addPlace();"), service.addPlace());
        CHECKS.due("link", toldFor("int link = service.addLink(from, to, 2, 5);"), service.addLink(0, 1, 2, 5));
        for (int hour = 0; hour <= 18; hour++) {
            boolean closed = hour == 5 || hour == 11 || hour == 17;
            CHECKS.due("open at hour " + hour, !closed, service.isOpenAt(0, hour));
        }
        CHECKS.due("id", toldFor("int id = service.post(from, to, 4, 1);"), service.post(0, 1, 4, 1));
        CHECKS.due("forecast", toldFor("service.forecast(id);"), service.forecast(0));
        CHECKS.due("nextLink", toldFor("service.nextLink(id);"), service.nextLink(0));
        CHECKS.due("dispatch", toldFor("service.dispatch();"), service.dispatch());
        CHECKS.due("formatParcel", toldFor("service.formatParcel(id);"), service.formatParcel(0));
        CHECKS.due("the line stands in it", true, text.contains("\"" + Scenes.line(service) + "\""));
        CHECKS.due("pass", toldFor("service.pass(2);"), service.pass(2));
        CHECKS.due("undo", toldFor("service.undo();"), service.undo());
        CHECKS.due("it travels again", true, service.isTravelling(0));
    }

    private void programRuns() {
        Matcher program = Pattern.compile("\"([^\"]*)\"\\.toCharArray\\(\\)").matcher(text);
        CHECKS.due("a program stands in it", true, program.find());
        RiverParcelService service = new RiverParcelService();
        Scenes.type(service, program.group(1));
        CHECKS.due("run", toldFor("service.run();"), service.run());
        CHECKS.due("one change", 1, service.undoableCount());
        CHECKS.due("delivered by the program", 1, service.deliveredTotal());
    }

    private void everyMethodIsNamed() {
        TreeSet<String> methods = new TreeSet<>();
        for (Method method : RiverParcelService.class.getDeclaredMethods()) {
            if (Modifier.isPublic(method.getModifiers())) {
                methods.add(method.getName());
            }
        }
        TreeSet<String> named = new TreeSet<>();
        Matcher name = Pattern.compile("`(\\w+)`").matcher(text);
        while (name.find()) {
            named.add(name.group(1));
        }
        CHECKS.due("the methods that it names", methods, named);
    }

    private void everyTestIsNamed() throws IOException {
        try (var files = Files.list(Path.of("src/test/java"))) {
            for (String file : files.map(path -> path.getFileName().toString()).sorted().toArray(String[]::new)) {
                if (file.endsWith("Test.java")) {
                    String test = file.replace(".java", "");
                    CHECKS.due(test + " is named", true, Arrays.asList(text.split("\\W+")).contains(test));
                }
            }
        }
    }
}
