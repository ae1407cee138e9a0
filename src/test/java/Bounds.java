import java.util.NoSuchElementException;
import java.util.function.Supplier;

/** What the tests of bounds share: the last number inside each bound, and the first ones outside it. */
abstract class Bounds {
    static final Class<IndexOutOfBoundsException> INDEX = IndexOutOfBoundsException.class;
    static final Class<IllegalArgumentException> ARGUMENT = IllegalArgumentException.class;
    static final Class<IllegalStateException> STATE = IllegalStateException.class;
    static final Class<NoSuchElementException> ELEMENT = NoSuchElementException.class;
    static final Class<ArithmeticException> ARITHMETIC = ArithmeticException.class;
    static final int LEAST = Integer.MIN_VALUE;
    static final int MOST = Integer.MAX_VALUE;

    enum Kind { WAITING, TRAVELLING, ANY }

    interface Question {
        Object of(RiverParcelService x, int number);
    }

    final Checks checks;
    private final Sentences sentences;

    Bounds(Checks checks, Sentences sentences) {
        this.checks = checks;
        this.sentences = sentences;
    }

    abstract void test();

    final void in(String section) {
        sentences.in(section);
    }

    final void promise(int number) {
        sentences.in("Promise " + number);
    }

    final void says(String sentence, Runnable test) {
        sentences.says(sentence, test);
    }

    final void due(String what, Object want, Object got) {
        checks.due(what, want, got);
    }

    final void refused(String what, Class<? extends RuntimeException> want, Checks.Call call) {
        checks.refused(what, want, call);
    }

    /** Each of the numbers is refused, on a service of its own, and the service stays as it is. */
    final void outside(Supplier<RiverParcelService> scene, Class<? extends RuntimeException> want,
            Question question, int... numbers) {
        for (int number : numbers) {
            RiverParcelService x = scene.get();
            String before = Refusals.sizes(x);
            refused("outside, " + number, want, () -> question.of(x, number));
            due("after the refusal of " + number, before, Refusals.sizes(x));
        }
    }

    /** None of the numbers is refused with this exception. */
    final void inside(Supplier<RiverParcelService> scene, Class<? extends RuntimeException> never,
            Question question, int... numbers) {
        for (int number : numbers) {
            RiverParcelService x = scene.get();
            Object outcome = Checks.outcomeOf(() -> question.of(x, number));
            due("inside, " + number + ", " + outcome, false, never.getSimpleName().equals(outcome));
        }
    }

    final void range(Supplier<RiverParcelService> scene, int least, int most, Question question) {
        inside(scene, ARGUMENT, question, least, least + 1, most - 1, most);
        outside(scene, ARGUMENT, question, least - 1, most + 1, LEAST, MOST);
    }

    final void noSuchPlace(Question question) {
        for (int count : new int[] {1, 2, 9}) {
            inside(() -> Scenes.places(count), INDEX, question, 0, count - 1);
            outside(() -> Scenes.places(count), INDEX, question, -1, count, count + 1, LEAST, MOST);
        }
        outside(() -> Scenes.places(0), INDEX, question, -1, 0, 8);
    }

    final void noSuchLink(Question question) {
        for (int count : new int[] {1, 3, 20}) {
            inside(() -> Scenes.links(count), INDEX, question, 0, count - 1);
            outside(() -> Scenes.links(count), INDEX, question, -1, count, count + 1, LEAST, MOST);
        }
        outside(() -> Scenes.links(0), INDEX, question, -1, 0, 19);
    }

    final void noSuchParcel(Kind kind, Question question) {
        if (kind != Kind.TRAVELLING) {
            inside(Scenes::mixed, ELEMENT, question, 2);
            inside(() -> Scenes.parcels(12), ELEMENT, question, 0, 11);
        }
        if (kind != Kind.WAITING) {
            inside(Scenes::mixed, ELEMENT, question, 3);
            inside(() -> firstAndLastSent(), ELEMENT, question, 0, 11);
        }
        outside(Scenes::mixed, ELEMENT, question, -1, 0, 1, 4, 5, LEAST, MOST);
        outside(() -> Scenes.parcels(12), ELEMENT, question, -1, 12);
        outside(() -> Scenes.parcels(0), ELEMENT, question, -1, 0);
    }

    private static RiverParcelService firstAndLastSent() {
        RiverParcelService x = Scenes.parcels(12);
        x.send(0, 0);
        x.send(11, 0);
        return x;
    }
}
