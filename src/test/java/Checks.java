/** Counts the answers that are not due, and tells each of them. */
final class Checks {
    interface Call {
        Object answer();
    }

    private int checked = 0;
    private int wrong = 0;
    private String about = "";

    /** What the next answers are about; it is told with each of them that is not due. */
    void about(String text) {
        about = text + ": ";
    }

    int count() {
        return checked;
    }

    /** Checks one answer; boxed answers are compared by kind and value. */
    void due(String what, Object want, Object got) {
        checked++;
        if (!want.equals(got)) {
            wrong++;
            System.out.println(about + what + " answered " + got + ", due is " + want);
        }
    }

    /** Checks that a call throws exactly this exception, and no class below it. */
    void refused(String what, Class<? extends RuntimeException> want, Call call) {
        due(what, want.getSimpleName(), outcomeOf(call));
    }

    /** The answer of a call, or the simple name of what it throws. */
    static Object outcomeOf(Call call) {
        try {
            return call.answer();
        } catch (RuntimeException thrown) {
            return thrown.getClass().getSimpleName();
        }
    }

    void end() {
        System.out.println(checked + " answers checked, " + wrong + " not as due");
        if (wrong != 0 || checked == 0) {
            System.exit(1);
        }
    }
}
