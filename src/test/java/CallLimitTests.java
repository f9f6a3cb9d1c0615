/** "An object is used for at most 512 calls": the 512th call is answered as the first. */
public final class CallLimitTests extends Checks {
    private interface Call {
        Object on(Finder x);
    }

    public static void main(String[] args) {
        sameCallAgainAndAgain();
        lastOfMixedCalls();
        feedsAndNexts();
        end("the 512th call is answered as the first");
    }

    // ---- one call, 512 times

    private static Finder world() {
        Finder x = new Finder(3);
        x.relation("r", 2);
        x.relation("p", 1);
        x.boundAll(0, 0, 9, 1);
        x.boundAll(1, 0, 3, 1);
        return x;
    }

    private static void dueAgain(String what, String want, Finder x, Call call) {
        while (x.calls() < Finder.MOST_CALLS) {
            due(what + ", call " + (x.calls() + 1), outcome(() -> call.on(x)), want);
        }
        due(what, x.calls(), 512);
    }

    private static void sameCallAgainAndAgain() {
        of("the same call up to the 512th");
        dueAgain("fact without a text", "-1", new Finder(2), Finder::fact);
        dueAgain("claim without a text", "-1", new Finder(2), Finder::claim);
        dueAgain("value without a present one", STATE, new Finder(2), Finder::value);
        dueAgain("holds without a present one", STATE, new Finder(2), Finder::holds);
        dueAgain("back", STATE, new Finder(2), Finder::back);
        dueAgain("next", STATE, new Finder(2), Finder::next);
        dueAgain("check", STATE, new Finder(2), Finder::check);
        dueAgain("core", STATE, world(), Finder::core);
        dueAgain("solve", "1", world(), Finder::solve);
        dueAgain("count", "4096", world(), Finder::count);
        dueAgain("unlike", "752", world(), Finder::unlike);
        dueAgain("fair", "6", world(), Finder::fair);
        dueAgain("feed", ARGUMENT, new Finder(2), x -> x.feed(0, 9));
        dueAgain("relation", ARGUMENT, new Finder(2), x -> x.relation("all", 1));
        dueAgain("has", INDEX, new Finder(2), x -> x.has(0, 0));
        dueAgain("isInCore", INDEX, new Finder(2), x -> x.isInCore(0));
        dueAgain("isIn", "0", new Finder(2), x -> x.isIn(0));
        dueAgain("told", "12", world(), x -> x.told(2));
        dueAgain("fault", "0", new Finder(2), x -> x.fault(true));
        dueAgain("bound", "1", world(), x -> x.bound(1, 2, 1));
    }

    // ---- all calls, mixed

    /** Uses all that an object has, and leaves relations, bounds and facts as they were. */
    private static void wear(Finder x, int round) {
        x.fact(round % 2 == 0 ? "some p" : "no p");
        x.claim("no r & ~r");
        x.check();
        x.value("p -> r");
        x.holds("lone p.r)");
        x.bound(0, 4, 2);
        x.count();
        x.bound(0, 4, 1);
        x.fact("false");
        x.core();
        x.back();
        x.unlike();
        x.solve();
        x.next();
        outcome(() -> x.relation("p", 1));
        x.back();
    }

    /** What comes right before the last call: all is there, and a text on the tape. */
    private static void prepare(Finder x, String text) {
        x.fact("some p");
        x.fact("no p");
        x.core();
        x.back();
        x.claim("lone p");
        x.solve();
        x.next();
        x.value("p -> univ");
        x.put(text);
    }

    private static int callsToPrepare(String text) {
        Finder x = world();
        int before = x.calls();
        prepare(x, text);
        return x.calls() - before;
    }

    private static void dueLast(String what, String text, String want, Call call) {
        Finder fresh = world();
        prepare(fresh, text);
        due(what + ", early", outcome(() -> call.on(fresh)), want);
        Finder worn = world();
        int end = Finder.MOST_CALLS - 1 - callsToPrepare(text);
        for (int round = 0; worn.calls() + 40 < end; round++) {
            wear(worn, round);
        }
        while (worn.calls() < end) {
            worn.told(0);
        }
        prepare(worn, text);
        due(what + ", calls before", worn.calls(), 511);
        due(what + ", as the 512th", outcome(() -> call.on(worn)), want);
        due(what + ", calls", worn.calls(), 512);
    }

    private static void lastOfMixedCalls() {
        of("each call as the 512th of mixed ones");
        dueLast("feed", "some", "12", x -> x.feed(0, 8));
        dueLast("fault", "$", "0", x -> x.fault(false));
        dueLast("place", "$", "-1", x -> x.fault(true));
        dueLast("relation", "", "2", x -> x.relation("q", 3));
        dueLast("relation again", "", ARGUMENT, x -> x.relation("p", 3));
        dueLast("bound", "", "1", x -> x.bound(0, 8, 2));
        dueLast("fact", "some r", "1", Finder::fact);
        dueLast("fact with a fault", "some r.p.p", "-9", Finder::fact);
        dueLast("back", "", "0", Finder::back);
        dueLast("claim", "some r", "0", Finder::claim);
        dueLast("claim with a fault", "some r r", "-8", Finder::claim);
        dueLast("solve", "", "1", Finder::solve);
        dueLast("next", "", "1", Finder::next);
        dueLast("check", "", "1", Finder::check);
        dueLast("has", "", "1", x -> x.has(1, 1));
        dueLast("has not", "", "0", x -> x.has(1, 2));
        dueLast("count", "", "3584", Finder::count);
        dueLast("unlike", "", "648", Finder::unlike);
        dueLast("fair", "", "6", Finder::fair);
        dueLast("core", "", STATE, Finder::core);
        dueLast("isInCore", "", "1", x -> x.isInCore(0));
        dueLast("isInCore of none", "", INDEX, x -> x.isInCore(1));
        dueLast("value", "p + univ.r", "1", Finder::value);
        dueLast("isIn", "", "1", x -> x.isIn(5));
        dueLast("isIn not", "", "0", x -> x.isIn(6));
        dueLast("holds", "one p", "1", Finder::holds);
        int[] tolds = {3, 2, 12, 1, 1, 1, 3, 2, -1};
        for (int what = 0; what < tolds.length; what++) {
            int number = what;
            dueLast("told(" + what + ")", "all", String.valueOf(tolds[what]), x -> x.told(number));
        }
    }

    private static void feedsAndNexts() {
        of("512 feeds, and next up to the 512th call");
        Finder x = new Finder(2);
        for (int i = 1; i <= 512; i++) {
            due("feed", x.feed(32, 1), i);
        }
        for (int tuple = 0; tuple < 12; tuple++) {
            Finder y = world();
            y.solve();
            int assignment = 0;
            while (y.calls() < 511) {
                due("next", y.next(), 1);
                assignment++;
            }
            due("has tuple " + tuple, y.has(tuple / 9, tuple % 9), (assignment >> 11 - tuple & 1) == 1);
        }
    }
}
