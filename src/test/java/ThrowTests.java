/**
 * Of each call that may throw: the right exception, also where two apply ("Of several that a call
 * names, the first one"), and that all else is told as before ("A call that throws changes nothing
 * but the tape").
 */
public final class ThrowTests extends Checks {
    private interface Made {
        Finder make();
    }

    private interface Call {
        Object on(Finder x);
    }

    private static final int LEAST = Integer.MIN_VALUE;
    private static final int MOST = Integer.MAX_VALUE;

    public static void main(String[] args) {
        feed();
        relation();
        bound();
        fact();
        back();
        next();
        check();
        has();
        core();
        isInCore();
        values();
        end("calls that throw throw what is due, and change nothing");
    }

    // ---- objects in which there is something of everything

    private static Finder withRelations() {
        Finder x = new Finder(2);
        x.relation("p", 1);
        x.relation("r", 2);
        x.boundAll(0, 0, 2, 1);
        x.bound(1, 0, 2);
        x.bound(1, 1, 1);
        return x;
    }

    /** Fact 0 is in the core that was told last, fact 1 is not. */
    private static void addFacts(Finder x) {
        x.fact("some p");
        x.fact("lone p");
        x.fact("no p");
        x.core();
        x.back();
    }

    private static void addPresent(Finder x) {
        x.solve();
        x.next();
        x.value("p -> r");
        x.holds("p = ");
    }

    private static Finder rich() {
        Finder x = withRelations();
        addFacts(x);
        x.claim("# r = 2");
        addPresent(x);
        return x;
    }

    private static Finder richWithTape() {
        Finder x = rich();
        x.put("some p");
        return x;
    }

    private static Finder richWithTape(int bytes) {
        Finder x = rich();
        x.put(" ".repeat(bytes - 4) + "true");
        return x;
    }

    private static Finder richWithoutPresent() {
        Finder x = rich();
        x.bound(1, 2, 0);
        return x;
    }

    private static Finder richWithoutAssertion() {
        Finder x = withRelations();
        addFacts(x);
        addPresent(x);
        return x;
    }

    private static Finder richWithoutFacts() {
        Finder x = withRelations();
        x.claim("# r = 2");
        addPresent(x);
        return x;
    }

    private static Finder richWithSixteenFacts() {
        Finder x = withRelations();
        addFacts(x);
        for (int i = 2; i < 16; i++) {
            x.fact("p=p");
        }
        x.claim("# r = 2");
        addPresent(x);
        return x;
    }

    private static Finder richWithEightRelations() {
        Finder x = withRelations();
        for (int i = 2; i < 8; i++) {
            x.relation("p" + "abcdefgh".charAt(i), 1);
        }
        addFacts(x);
        x.claim("# r = 2");
        addPresent(x);
        x.put("some p");
        return x;
    }

    private static Finder richWithTwelveFree() {
        Finder x = withRelations();
        x.relation("t", 3);
        x.bound(1, 2, 1);
        x.boundAll(2, 0, 8, 1);
        addFacts(x);
        x.claim("# r = 2");
        addPresent(x);
        x.put("some p");
        return x;
    }

    // ---- comparing

    /** Changes much; what it tells shows what state() can't ask for. */
    private static String later(Finder x) {
        StringBuilder text = new StringBuilder();
        text.append(outcome(x::next)).append(' ').append(x.present());
        text.append(", ").append(outcome(x::check)).append(' ').append(x.present());
        text.append(", ").append(outcome(x::fact)).append(' ').append(x.fault(false)).append(' ').append(x.fault(true));
        text.append(", ").append(outcome(x::solve)).append(' ').append(x.present());
        text.append(", ").append(outcome(x::back)).append(' ').append(outcome(x::count));
        text.append(", ").append(outcome(x::back)).append(' ').append(outcome(x::count));
        text.append(", ").append(outcome(() -> x.relation("z", 1)));
        text.append(", ").append(x.state());
        return text.toString();
    }

    /** An object of which the call was not asked, and whose tape was not fed, tells the same. */
    private static void refused(String what, String want, Made made, String text, Call call) {
        Finder x = made.make();
        Finder untouched = made.make();
        x.put(text);
        due(what, outcome(() -> call.on(x)), want);
        due(what + ", and then", x.state(), untouched.state());
        due(what + ", and later", later(x), later(untouched));
    }

    private static void refused(String what, String want, Made made, Call call) {
        refused(what, want, made, "", call);
    }

    // ---- the calls

    private static void feed() {
        of("feed, IllegalArgument");
        for (int n : new int[] {0, 9, -1, -8, 16, LEAST, MOST}) {
            refused("n " + n, ARGUMENT, ThrowTests::richWithTape, x -> x.feed(Finder.name("true"), n));
        }
        of("feed, UnsupportedOperation");
        refused("601", UNSUPPORTED, () -> richWithTape(600), x -> x.feed(32, 1));
        refused("600 and 8", UNSUPPORTED, () -> richWithTape(600), x -> x.feed(32, 8));
        refused("593 and 8", UNSUPPORTED, () -> richWithTape(593), x -> x.feed(32, 8));
        of("feed, both");
        for (int n : new int[] {0, 9, -1, LEAST, MOST}) {
            refused("600 and n " + n, ARGUMENT, () -> richWithTape(600), x -> x.feed(32, n));
        }
    }

    private static void relation() {
        of("relation, IllegalArgument");
        for (String name : new String[] {"", "p", "all", "implies", "abcdefg", "A"}) {
            refused("name " + name, ARGUMENT, ThrowTests::richWithTape, x -> x.relation(name, 1));
        }
        for (int arity : new int[] {0, 4, -1, LEAST, MOST}) {
            refused("arity " + arity, ARGUMENT, ThrowTests::richWithTape, x -> x.relation("q", arity));
        }
        of("relation, UnsupportedOperation");
        refused("ninth", UNSUPPORTED, ThrowTests::richWithEightRelations, x -> x.relation("q", 1));
        of("relation, both");
        refused("ninth, no name", ARGUMENT, ThrowTests::richWithEightRelations, x -> x.relation(5L, 1));
        refused("ninth, keyword", ARGUMENT, ThrowTests::richWithEightRelations, x -> x.relation("univ", 1));
        refused("ninth, a relation's name", ARGUMENT, ThrowTests::richWithEightRelations, x -> x.relation("p", 1));
        refused("ninth, no arity", ARGUMENT, ThrowTests::richWithEightRelations, x -> x.relation("q", 0));
        refused("ninth, all of these", ARGUMENT, ThrowTests::richWithEightRelations, x -> x.relation("p", 4));
    }

    private static void bound() {
        of("bound, IndexOutOfBounds");
        int[][] none = {{2, 0}, {-1, 0}, {LEAST, 0}, {MOST, 0}, {0, 2}, {0, -1}, {1, 4}, {1, LEAST}, {1, MOST}, {2, 4}};
        for (int[] which : none) {
            refused("bound " + which[0] + " " + which[1], INDEX, ThrowTests::richWithTape, x -> x.bound(which[0], which[1], 1));
        }
        of("bound, IllegalArgument");
        for (int how : new int[] {-1, 3, LEAST, MOST}) {
            refused("how " + how, ARGUMENT, ThrowTests::richWithTape, x -> x.bound(0, 0, how));
        }
        of("bound, UnsupportedOperation");
        refused("13th, was OUT", UNSUPPORTED, ThrowTests::richWithTwelveFree, x -> x.bound(1, 3, 1));
        refused("13th, was IN", UNSUPPORTED, ThrowTests::richWithTwelveFree, x -> x.bound(1, 0, 1));
        of("bound, two");
        refused("no relation, another how", INDEX, ThrowTests::richWithTape, x -> x.bound(2, 0, 3));
        refused("no tuple, another how", INDEX, ThrowTests::richWithTape, x -> x.bound(0, 2, -1));
        refused("no relation, 13th", INDEX, ThrowTests::richWithTwelveFree, x -> x.bound(3, 0, 1));
        refused("no tuple, 13th", INDEX, ThrowTests::richWithTwelveFree, x -> x.bound(1, 4, 1));
        refused("another how with 12 FREE", ARGUMENT, ThrowTests::richWithTwelveFree, x -> x.bound(1, 3, 3));
    }

    private static void fact() {
        of("fact, UnsupportedOperation");
        refused("17th", UNSUPPORTED, ThrowTests::richWithSixteenFacts, "no p", Finder::fact);
        refused("17th with a fault", UNSUPPORTED, ThrowTests::richWithSixteenFacts, "p . p = $", Finder::fact);
        refused("17th without a text", UNSUPPORTED, ThrowTests::richWithSixteenFacts, "", Finder::fact);
    }

    private static void back() {
        of("back, IllegalState");
        refused("none", STATE, ThrowTests::richWithoutFacts, Finder::back);
        refused("none, new object", STATE, () -> new Finder(2), Finder::back);
    }

    private static void next() {
        of("next, IllegalState");
        refused("none present", STATE, ThrowTests::richWithoutPresent, Finder::next);
        refused("new object", STATE, () -> new Finder(2), Finder::next);
    }

    private static void check() {
        of("check, IllegalState");
        refused("no assertion", STATE, ThrowTests::richWithoutAssertion, Finder::check);
        refused("new object", STATE, () -> new Finder(2), Finder::check);
    }

    private static void has() {
        int[][] none = {{2, 0}, {-1, 0}, {LEAST, 0}, {MOST, 0}, {0, 2}, {0, -1}, {1, 4}, {1, LEAST}, {1, MOST}, {2, 4}};
        for (int[] which : none) {
            String what = "has " + which[0] + " " + which[1];
            of("has, IndexOutOfBounds");
            refused(what, INDEX, ThrowTests::richWithTape, x -> x.has(which[0], which[1]));
            of("has, both");
            refused(what, INDEX, ThrowTests::richWithoutPresent, x -> x.has(which[0], which[1]));
        }
        of("has, IllegalState");
        refused("none present", STATE, ThrowTests::richWithoutPresent, x -> x.has(0, 0));
        refused("none present, IN", STATE, ThrowTests::richWithoutPresent, x -> x.has(1, 0));
        refused("new object", INDEX, () -> new Finder(2), x -> x.has(0, 0));
    }

    private static void core() {
        of("core, IllegalState");
        refused("an instance", STATE, ThrowTests::richWithTape, Finder::core);
        refused("an instance, none present", STATE, ThrowTests::richWithoutPresent, Finder::core);
        refused("no facts", STATE, ThrowTests::richWithoutFacts, Finder::core);
        refused("new object", STATE, () -> new Finder(2), Finder::core);
    }

    private static void isInCore() {
        of("isInCore, IndexOutOfBounds");
        for (int fact : new int[] {2, 15, 16, 32, -1, LEAST, MOST}) {
            refused("fact " + fact, INDEX, ThrowTests::richWithTape, x -> x.isInCore(fact));
        }
        for (int fact : new int[] {16, 32, -1, LEAST, MOST}) {
            refused("fact " + fact + " of 16", INDEX, ThrowTests::richWithSixteenFacts, x -> x.isInCore(fact));
        }
        refused("no facts", INDEX, ThrowTests::richWithoutFacts, x -> x.isInCore(0));
    }

    private static void values() {
        of("value, IllegalState");
        for (String text : new String[] {"univ", "p . p $", "", "p = p"}) {
            refused(text, STATE, ThrowTests::richWithoutPresent, text, Finder::value);
        }
        of("holds, IllegalState");
        for (String text : new String[] {"some p", "p . p $", "", "p"}) {
            refused(text, STATE, ThrowTests::richWithoutPresent, text, Finder::holds);
        }
        refused("new object", STATE, () -> new Finder(2), "univ", Finder::value);
        refused("new object", STATE, () -> new Finder(2), "true", Finder::holds);
    }
}
