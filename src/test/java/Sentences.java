import java.util.ArrayList;
import java.util.LinkedHashMap;
import java.util.List;
import java.util.Map;
import java.util.TreeSet;

/** The sentences of the document, and which of them a test of their own has looked at. */
final class Sentences {
    private final Map<String, List<String>> sections = new LinkedHashMap<>();
    private final TreeSet<String> tested = new TreeSet<>();
    private final Checks checks;
    private String section = "";

    Sentences(Checks checks, String document) {
        this.checks = checks;
        for (String part : document.split("(?m)^## ")) {
            int end = part.indexOf('\n');
            sections.put(part.substring(0, end).replaceAll(":.*", ""), sentencesOf(part.substring(end)));
        }
    }

    private static List<String> sentencesOf(String text) {
        List<String> sentences = new ArrayList<>();
        for (String paragraph : text.split("\n\n|\n(?=- )")) {
            String words = paragraph.strip().replaceAll("\\s+", " ");
            // The form of a method stands before its sentences.
            words = words.replaceAll("^`\\w+ ?\\w*\\([^`]*`: ", "");
            for (String sentence : words.split("(?<=\\.) (?=[A-Z])")) {
                sentences.add(sentence);
            }
        }
        return sentences;
    }

    void in(String name) {
        section = name;
        checks.about(name);
        checks.due("the section stands in the document", true, sections.containsKey(name));
    }

    /** Runs the test of a sentence that must stand, word by word, in the present section. */
    void says(String sentence, Runnable test) {
        checks.about(section + ", '" + sentence + "'");
        checks.due("the sentence stands there", true, sections.getOrDefault(section, List.of()).contains(sentence));
        tested.add(section + ": " + sentence);
        int before = checks.count();
        try {
            test.run();
        } catch (RuntimeException thrown) {
            checks.due("a call that must return", "an answer", thrown.toString());
        }
        checks.due("it is looked at", true, checks.count() > before);
    }

    /** Each sentence of the terms, and each one of a promise that names a bound, has its test. */
    void allAreTested() {
        checks.about("every bound");
        for (Map.Entry<String, List<String>> part : sections.entrySet()) {
            for (String sentence : part.getValue()) {
                String name = part.getKey() + ": " + sentence;
                if (needsTest(part.getKey(), sentence)) {
                    checks.due(name, "tested", tested.contains(name) ? "tested" : "not tested");
                }
            }
        }
    }

    private static boolean needsTest(String section, String sentence) {
        if (section.equals("Terms")) {
            boolean title = !sentence.contains(" ") || sentence.equals("Earliest arrivals.");
            boolean bound = !sentence.startsWith("The class is not") && !sentence.startsWith("Integer divisions");
            return !title && bound;
        }
        return section.startsWith("Promise")
                && sentence.matches("Throws .*|.*\\d.*|.*starting at.*|.*at first.*|.*afterwards.*|.*Of several.*");
    }
}
