import java.io.IOException;
import java.nio.file.Files;
import java.nio.file.Path;
import java.util.TreeSet;
import java.util.regex.Matcher;
import java.util.regex.Pattern;

/** The rules of ../shared/LANGUAGE.md that can be seen from the words of the class file alone. */
public final class LanguageTest {
    private static final String[] FORBIDDEN = {"->", "::", "try", "catch", "finally", "synchronized", "assert",
        "instanceof", "static {", "Exact(", "yield", "var ", "equals(", "hashCode", "toString", "System.exit",
        "Random", "Thread", "currentTime", "nanoTime", "double[]", "String[]", "static int[]", "@"};
    private static final String[] LIBRARY = {"Math", "NoSuchElementException", "IndexOutOfBoundsException",
        "IllegalArgumentException", "IllegalStateException", "ArithmeticException", "String", "StringBuilder",
        "RiverParcelService", "Link", "Network", "Ways", "Parcel", "Service", "History", "Program"};

    public static void main(String[] args) throws IOException {
        Checks checks = new Checks();
        String text = Files.readString(Path.of(args.length > 0 ? args[0] : "src/main/java/RiverParcelService.java"));
        String code = text.replaceAll("(?s)/\\*.*?\\*/", "").replaceAll("//[^\n]*", "")
                .replaceAll("\"[^\"\n]*\"", "\"\"");
        for (String word : FORBIDDEN) {
            String edge = Character.isLetter(word.charAt(0)) ? "\\b" : "";
            checks.due("the code has '" + word + "'", false,
                    Pattern.compile(edge + Pattern.quote(word) + (word.matches("[a-z]+") ? "\\b" : "")).matcher(code).find());
        }
        checks.due("signs are 1 to 127", true, text.chars().allMatch(sign -> sign < 128));
        checks.due("imports", "import java.util.NoSuchElementException;", firstLine(code));
        checks.due("imports in all", 1, code.split("\nimport |^import ").length - 1);
        checks.due("texts are joined by +", false, Pattern.compile("\"\" *\\+|\\+ *\"\"").matcher(code).find());
        TreeSet<String> unknown = new TreeSet<>();
        Matcher name = Pattern.compile("\\b[A-Z][a-z][A-Za-z]*\\b").matcher(code);
        while (name.find()) {
            unknown.add(name.group());
        }
        unknown.removeAll(java.util.List.of(LIBRARY));
        checks.due("other classes", new TreeSet<String>(), unknown);
        checkLengths(checks, code);
        checks.end();
    }

    private static String firstLine(String code) {
        return code.strip().split("\n")[0];
    }

    private static void checkLengths(Checks checks, String code) {
        String[] lines = code.split("\n");
        int start = -1;
        for (int i = 0; i < lines.length; i++) {
            checks.due("line " + (i + 1) + " is not too long", true, lines[i].length() <= 110);
            if (lines[i].matches("( {4}| {8})[a-zA-Z].*\\) .*\\{|( {4}| {8})[A-Z][a-zA-Z]+\\(.*\\) \\{")
                    && !lines[i].strip().matches("(for|if|switch|while) .*")) {
                start = i;
            }
            if (start >= 0 && lines[i].matches(" {4}\\}| {8}\\}")) {
                checks.due("the method at line " + (start + 1) + " is short", true, i - start <= 60);
                start = -1;
            }
        }
    }
}
