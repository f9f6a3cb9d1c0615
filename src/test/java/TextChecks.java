/** What the tests of texts share: a text is read by a new object, and its FAULT and place compared. */
abstract class TextChecks extends Checks {
    /** Each text is for a new object, so that none is asked too often. */
    static Finder world() {
        Finder x = new Finder(2);
        x.relation("p", 1);
        x.relation("r", 2);
        x.relation("t", 3);
        x.relation("ab", 1);
        return x;
    }

    static Finder solved() {
        Finder x = world();
        x.solve();
        return x;
    }

    private static void compare(String text, Finder x, int answer, int good, int kind, int place) {
        due(text, answer, kind == 0 ? good : -1 - place);
        due(text + " fault", x.fault(false), kind);
        due(text + " place", x.fault(true), kind == 0 ? -1 : place);
    }

    /** Kind 0 is no fault; the place then doesn't matter. */
    static void formula(String text, int kind, int place) {
        Finder x = world();
        compare(text, x, x.claim(text), 0, kind, place);
    }

    static void taken(String text) {
        formula(text, 0, -1);
    }

    /** The place of the fault is that of the mark `, which is left out. */
    static void refused(int kind, String marked) {
        formula(marked.replace("`", ""), kind, marked.indexOf('`'));
    }

    static void expression(String text, int good, int kind, int place) {
        Finder x = solved();
        compare(text, x, x.value(text), good, kind, place);
    }

    static void refusedExpression(int kind, String marked) {
        expression(marked.replace("`", ""), 0, kind, marked.indexOf('`'));
    }

    static void holds(String text, int due) {
        Finder x = solved();
        compare(text, x, x.holds(text), due, 0, -1);
    }

    static String times(String text, int n) {
        return text.repeat(n);
    }
}
