/** What the tests share: compares answers with those that are due, and tells at the end whether one was wrong. */
abstract class Checks {
    /** A call of the class under test. */
    interface Asked {
        Object ask();
    }

    static final String INDEX = "throws.IndexOutOfBoundsException";
    static final String ARGUMENT = "throws.IllegalArgumentException";
    static final String STATE = "throws.IllegalStateException";
    static final String UNSUPPORTED = "throws.UnsupportedOperationException";

    private static int wrong = 0;
    private static String part = "";

    /** Which sentence or promise of the document the following comparisons are for. */
    static void of(String sentence) {
        part = sentence;
    }

    /** A boolean counts 1 or 0, as in the tests under ../shared/tests. */
    static void due(String what, Object got, Object want) {
        String answer = told(got);
        if (!answer.equals(told(want))) {
            wrong++;
            System.out.println(part + ": " + what + " answered " + answer + ", due is " + told(want));
        }
    }

    static void dueThrow(String what, String want, Asked call) {
        due(what, outcome(call), want);
    }

    /** The answer, or the exact class that was thrown. */
    static String outcome(Asked call) {
        try {
            return told(call.ask());
        } catch (RuntimeException e) {
            return "throws." + e.getClass().getSimpleName();
        }
    }

    private static String told(Object answer) {
        if (answer instanceof Boolean) {
            return (Boolean) answer ? "1" : "0";
        }
        return String.valueOf(answer);
    }

    static void end(String whenGood) {
        System.out.println(wrong == 0 ? whenGood : wrong + " answers are wrong");
        if (wrong != 0) {
            System.exit(1);
        }
    }
}
