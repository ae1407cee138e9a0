import java.io.IOException;
import java.nio.file.Files;
import java.nio.file.Path;

/** Each sentence of the document that names a bound, looked at by a test of its own. */
public final class BoundsTest {
    public static void main(String[] args) throws IOException {
        Checks checks = new Checks();
        Path document = Path.of(args.length > 1 ? args[1] : "../shared/DOC.md");
        Sentences sentences = new Sentences(checks, Files.readString(document));
        Bounds[] groups = {new TermsBounds(checks, sentences), new ChangeBounds(checks, sentences),
            new QuestionBounds(checks, sentences), new ProgramBounds(checks, sentences),
            new UndoBounds(checks, sentences), new Refusals(checks, sentences)};
        for (Bounds group : groups) {
            group.test();
        }
        sentences.allAreTested();
        checks.end();
    }
}
