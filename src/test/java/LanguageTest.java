import java.io.IOException;
import java.lang.reflect.Field;
import java.lang.reflect.Method;
import java.lang.reflect.Modifier;
import java.nio.file.Files;
import java.nio.file.Path;
import java.util.List;
import java.util.TreeSet;
import java.util.regex.Matcher;
import java.util.regex.Pattern;

/** The rules of ../shared/LANGUAGE.md that can be seen from the words of the class file alone. */
public final class LanguageTest {
    private static final String[] FORBIDDEN = {"::", "\\bfinally\\b", "\\bsynchronized\\b", "\\bassert\\b", "\\bnative\\b",
        "\\bstatic \\{", "Exact\\(", "\\btry \\(", "getMessage", "System\\.(?!arraycopy)", "Math\\.random",
        "(boolean|int|String) (equals|hashCode|toString)\\(", "\"\" *\\+|\\+ *\"\"", "\\bpackage\\b"};
    private static final List<String> LIBRARY = List.of("Override", "String", "StringBuilder", "ArrayList", "List",
        "Integer", "Long", "Math", "Iterator", "Iterable", "Comparable", "System", "Arrays",
        "IllegalStateException", "IllegalArgumentException", "IndexOutOfBoundsException", "ArithmeticException",
        "UnsupportedOperationException", "NoSuchElementException", "RuntimeException");

    private static final Checks CHECKS = new Checks();

    public static void main(String[] args) throws IOException, ReflectiveOperationException {
        String text = Files.readString(Path.of(args.length > 0 ? args[0] : "src/main/java/RiverParcelService.java"));
        CHECKS.due("signs of the file are 1 to 127", true, text.chars().allMatch(sign -> sign < 128));
        String code = text.replaceAll("(?s)/\\*.*?\\*/", "").replaceAll("//[^\n]*", "")
                .replaceAll("\"[^\"\n]*\"", "\"\"");
        forbiddenWords(code);
        TreeSet<String> own = ownClasses(code);
        otherClasses(code, own);
        for (String name : own) {
            String whole = name.equals("RiverParcelService") ? name : "RiverParcelService$" + name;
            checkClass(Class.forName(whole), name.equals("RiverParcelService"));
        }
        shortMethods(code);
        CHECKS.end();
    }

    private static void forbiddenWords(String code) {
        for (String word : FORBIDDEN) {
            CHECKS.due("the code has " + word, false, Pattern.compile(word).matcher(code).find());
        }
        String noLabels = code.replaceAll("(case [^;{}]*?|default) ->", "");
        CHECKS.due("the code has a lambda", false, noLabels.contains("->"));
        Matcher machine = Pattern.compile("catch \\((\\w*(ArrayIndex|NullPointer|ClassCast|NegativeArray|ArrayStore)\\w*"
                + "|Exception|Throwable|Error)\\b").matcher(code);
        CHECKS.due("the code catches what the machine throws", false, machine.find());
    }

    private static TreeSet<String> ownClasses(String code) {
        TreeSet<String> names = new TreeSet<>();
        Matcher name = Pattern.compile("\\b(class|record|enum|interface) (\\w+)").matcher(code);
        while (name.find()) {
            names.add(name.group(2));
        }
        CHECKS.due("some twelve classes", true, names.size() <= 13);
        return names;
    }

    private static void otherClasses(String code, TreeSet<String> own) {
        TreeSet<String> unknown = new TreeSet<>();
        Matcher name = Pattern.compile("\\b[A-Z][a-z][A-Za-z]*\\b").matcher(code);
        while (name.find()) {
            unknown.add(name.group());
        }
        unknown.removeAll(LIBRARY);
        unknown.removeAll(own);
        CHECKS.due("classes of neither the file nor the library", new TreeSet<String>(), unknown);
    }

    private static void checkClass(Class<?> type, boolean face) {
        int fields = 0;
        for (Field field : type.getDeclaredFields()) {
            boolean constant = Modifier.isStatic(field.getModifiers());
            fields += constant || field.isSynthetic() ? 0 : 1;
            CHECKS.due(field + " is final", true, !constant || Modifier.isFinal(field.getModifiers()));
            CHECKS.due(field + " is private in the face", true, !face || Modifier.isPrivate(field.getModifiers()));
        }
        CHECKS.due(type + " has some twenty fields", true, fields <= 22);
        TreeSet<String> open = new TreeSet<>();
        for (Method method : type.getDeclaredMethods()) {
            CHECKS.due(method + " takes at most seven", true, method.getParameterCount() <= 7);
            if (Modifier.isPublic(method.getModifiers())) {
                open.add(method.getName());
            }
        }
        for (Method method : type.getDeclaredMethods()) {
            if (face && Modifier.isPrivate(method.getModifiers())) {
                CHECKS.due(method + " bears a public name", false, open.contains(method.getName()));
            }
        }
    }

    /** A method begins at a line of 4 or 8 blanks with parameters, and ends at the next brace that far in. */
    private static void shortMethods(String code) {
        String[] lines = code.split("\n");
        int start = -1;
        for (int i = 0; i < lines.length; i++) {
            if (lines[i].matches("( {4}| {8})[a-zA-Z].*\\).*\\{") && !lines[i].matches(" *(for|if|switch|while) .*")) {
                start = i;
            }
            if (start >= 0 && lines[i].matches(" {4}\\}| {8}\\}")) {
                CHECKS.due("the method at line " + (start + 1) + " is short", true, i - start <= 60);
                start = -1;
            }
        }
    }
}
