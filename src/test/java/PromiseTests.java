/** For each promise of the document: ordinary inputs, the edges that it names, wrong inputs. */
public final class PromiseTests extends Checks {
    public static void main(String[] args) {
        newObject();
        feed();
        fault();
        relation();
        bound();
        fact();
        back();
        claim();
        solve();
        next();
        check();
        has();
        count();
        countNested();
        unlike();
        fair();
        core();
        isInCore();
        value();
        isIn();
        holds();
        told();
        presentOneGoes();
        end("all promises are kept");
    }

    // ---- helpers

    private static long name(String text) {
        return Finder.name(text);
    }

    /** Tuples of the value that was worked out last, as a row of 0 and 1. */
    private static void dueTuples(String expression, int arity, String tuples) {
        Finder x = valueWorld();
        int total = 0;
        for (char c : tuples.toCharArray()) {
            total += c - '0';
        }
        due(expression, x.value(expression), total);
        due(expression + " arity", x.told(7), arity);
        for (int i = 0; i < tuples.length(); i++) {
            due(expression + " has " + i, x.isIn(i), tuples.charAt(i) == '1');
        }
        due(expression + " has one too many", x.isIn(tuples.length()), false);
    }

    // ---- promises

    private static void newObject() {
        of("promise 1");
        int[] given = {Integer.MIN_VALUE, -1, 0, 1, 2, 3, 4, 5, 6, Integer.MAX_VALUE};
        int[] atoms = {1, 1, 1, 1, 2, 3, 4, 5, 5, 5};
        for (int i = 0; i < given.length; i++) {
            Finder x = new Finder(given[i]);
            due("told(0) of " + given[i], x.told(0), atoms[i]);
            for (int what = 1; what <= 7; what++) {
                due("told(" + what + ") of " + given[i], x.told(what), 0);
            }
        }
        due("NONE", RelationFinder.NONE, -1);
        Finder x = new Finder(3);
        dueThrow("back()", STATE, x::back);
        dueThrow("check()", STATE, x::check);
        dueThrow("next()", STATE, x::next);
        due("solve()", x.solve(), 1);
    }

    private static void feed() {
        of("promise 2");
        Finder x = new Finder(2);
        dueThrow("n 0", ARGUMENT, () -> x.feed(1, 0));
        dueThrow("n 9", ARGUMENT, () -> x.feed(1, 9));
        dueThrow("n -1", ARGUMENT, () -> x.feed(1, -1));
        due("bytes", x.told(6), 0);
        due("lowest bytes alone", x.feed(name("xxxxtrue"), 4), 4);
        due("fact", x.fact(), 0);
        due("highest first", x.feed(name("tr"), 2), 2);
        due("behind", x.feed(name("ue"), 2), 4);
        due("fact", x.fact(), 1);
        for (int i = 1; i <= 74; i++) {
            due("feed 8", x.feed(name("        "), 8), 8 * i);
        }
        due("feed 7", x.feed(0, 7), 599);
        dueThrow("2 more", UNSUPPORTED, () -> x.feed(0, 2));
        due("nothing came", x.told(6), 599);
        due("1 more", x.feed(0, 1), 600);
        dueThrow("601", UNSUPPORTED, () -> x.feed(0, 1));
        dueThrow("wrong n first", ARGUMENT, () -> x.feed(0, 0));
        due("all blanks", x.fact(), -601);
        due("used up", x.told(6), 0);
    }

    private static void fault() {
        of("promise 3");
        Finder x = new Finder(2);
        due("before any", x.fault(false), 0);
        due("place before any", x.fault(true), 0);
        x.fact("true true");
        due("fault", x.fault(false), 7);
        due("place", x.fault(true), 5);
        x.put("$");
        dueThrow("value", STATE, x::value);
        due("a call that throws reads nothing", x.fault(false), 7);
        due("place stays", x.fault(true), 5);
        x.fact("true");
        due("none", x.fault(false), 0);
        due("no place", x.fault(true), -1);
        x.claim(" $");
        due("of claim", x.fault(false), 1);
        due("place of claim", x.fault(true), 1);
        x.solve();
        x.value("univ.univ");
        due("of value", x.fault(false), 5);
        x.holds("foo = univ");
        due("of holds", x.fault(false), 4);
        due("place of holds", x.fault(true), 0);
    }

    private static void relation() {
        of("promise 4");
        Finder x = new Finder(5);
        due("first", x.relation(name("abcdef"), 3), 0);
        String[] refused = {"", "abcdef", "abcdefg", "abcdefgh", "A", "a1", "a b", "a\0", "a\0b", "\0", "~", "`", "{",
            "all", "some", "no", "lone", "one", "not", "and", "or", "implies", "iff", "in", "none", "univ",
            "iden", "true", "false", "\u00e1"};
        for (String text : refused) {
            dueThrow("relation " + text, ARGUMENT, () -> x.relation(name(text), 1));
        }
        dueThrow("negative", ARGUMENT, () -> x.relation(-1L, 1));
        for (int arity : new int[] {0, 4, -1, Integer.MAX_VALUE, Integer.MIN_VALUE}) {
            dueThrow("arity " + arity, ARGUMENT, () -> x.relation(name("b"), arity));
        }
        due("nothing was made", x.told(1), 1);
        due("a", x.relation(name("a"), 1), 1);
        due("z", x.relation(name("z"), 2), 2);
        due("impl", x.relation(name("impl"), 2), 3);
        due("alls", x.relation(name("alls"), 2), 4);
        due("nota", x.relation(name("nota"), 2), 5);
        due("i", x.relation(name("i"), 2), 6);
        due("x", x.relation(name("x"), 1), 7);
        dueThrow("ninth", UNSUPPORTED, () -> x.relation(name("y"), 1));
        dueThrow("ninth, no name", ARGUMENT, () -> x.relation(name("a"), 1));
        dueThrow("ninth, no arity", ARGUMENT, () -> x.relation(name("y"), 4));
        due("there are 8", x.told(1), 8);
        x.solve();
        due("all out", x.has(0, 124), false);
        due("none free", x.count(), 1);
        due("all out in value", x.value("abcdef"), 0);
        due("arity", x.told(7), 3);
    }

    private static void bound() {
        of("promise 5");
        Finder x = new Finder(3);
        dueThrow("no relation", INDEX, () -> x.bound(0, 0, 0));
        x.relation(name("a"), 1);
        x.relation(name("b"), 2);
        x.relation(name("c"), 3);
        dueThrow("relation 3", INDEX, () -> x.bound(3, 0, 0));
        dueThrow("relation -1", INDEX, () -> x.bound(-1, 0, 0));
        dueThrow("tuple of 1", INDEX, () -> x.bound(0, 3, 0));
        dueThrow("tuple of 2", INDEX, () -> x.bound(1, 9, 0));
        dueThrow("tuple of 3", INDEX, () -> x.bound(2, 27, 0));
        dueThrow("tuple -1", INDEX, () -> x.bound(2, -1, 0));
        dueThrow("index first", INDEX, () -> x.bound(2, 27, 7));
        dueThrow("how 3", ARGUMENT, () -> x.bound(2, 26, 3));
        dueThrow("how -1", ARGUMENT, () -> x.bound(2, 26, -1));
        due("out", x.bound(2, 26, 2), 0);
        due("in", x.bound(2, 26, 1), 2);
        due("free", x.bound(2, 26, 1), 1);
        due("free again", x.told(2), 1);
        due("to out", x.bound(2, 26, 0), 1);
        due("none free", x.told(2), 0);
        x.boundAll(2, 0, 12, 1);
        due("12 free", x.told(2), 12);
        dueThrow("13th", UNSUPPORTED, () -> x.bound(0, 0, 1));
        dueThrow("13th, wrong how", ARGUMENT, () -> x.bound(0, 0, 3));
        due("one that is free", x.bound(2, 0, 1), 1);
        due("unchanged", x.bound(0, 0, 2), 0);
        x.bound(2, 5, 2);
        due("room for one", x.bound(0, 1, 1), 0);
        due("12 again", x.told(2), 12);
        due("all of these are assignments", x.count(), 4096);
        x.solve();
        due("in", x.has(2, 5), true);
        due("free, so out in the first", x.has(0, 1), false);
    }

    private static void fact() {
        of("promise 6");
        Finder x = new Finder(2);
        due("no text", x.fact(), -1);
        due("fault", x.fact("true or"), -8);
        due("no fact yet", x.told(3), 0);
        due("used up", x.told(6), 0);
        for (int i = 0; i < 16; i++) {
            due("fact " + i, x.fact(i % 2 == 0 ? "true" : "univ=univ"), i);
        }
        x.put("false");
        dueThrow("17th", UNSUPPORTED, x::fact);
        due("the tape is used up", x.told(6), 0);
        due("16", x.told(3), 16);
        due("still true", x.solve(), 1);
        x.put("$");
        dueThrow("17th with a fault", UNSUPPORTED, x::fact);
        due("fault of the 16th", x.fault(false), 0);
        due("a present one stays", x.told(5), 1);
    }

    private static void back() {
        of("promise 7");
        Finder x = new Finder(2);
        dueThrow("none", STATE, x::back);
        x.fact("true");
        x.fact("false");
        due("solve", x.solve(), 0);
        due("back", x.back(), 1);
        due("solve", x.solve(), 1);
        due("back", x.back(), 0);
        dueThrow("none again", STATE, x::back);
        due("number again", x.fact("false"), 0);
        due("solve", x.solve(), 0);
    }

    private static void claim() {
        of("promise 8");
        Finder x = new Finder(2);
        due("no text", x.claim(), -1);
        due("no assertion", x.told(4), 0);
        due("fault", x.claim("true  ]"), -7);
        dueThrow("still none", STATE, x::check);
        due("claim", x.claim("false"), 0);
        due("assertion", x.told(4), 1);
        due("check", x.check(), 1);
        due("fault", x.claim("true true"), -6);
        due("the one before stays", x.check(), 1);
        due("another", x.claim("true"), 0);
        due("check", x.check(), 0);
        due("it is no fact", x.told(3), 0);
    }

    private static void solve() {
        of("promise 9");
        Finder x = new Finder(3);
        x.relation(name("q"), 1);
        x.relation(name("p"), 1);
        x.boundAll(1, 0, 3, 1);
        x.boundAll(0, 0, 3, 1);
        x.fact("some p and some q");
        due("solve", x.solve(), 1);
        String least = "001001";
        for (int i = 0; i < 6; i++) {
            due("tuple " + i, x.has(i / 3, i % 3), least.charAt(i) == '1');
        }
        x.fact("no p");
        due("none", x.solve(), 0);
        due("none present", x.told(5), 0);
        dueThrow("has", STATE, () -> x.has(0, 0));
    }

    private static void next() {
        of("promise 10");
        Finder x = new Finder(3);
        dueThrow("none present", STATE, x::next);
        x.relation(name("p"), 1);
        x.boundAll(0, 0, 3, 1);
        x.fact("some p");
        x.solve();
        for (int a = 1; a <= 7; a++) {
            for (int i = 0; i < 3; i++) {
                due("assignment " + a + " tuple " + i, x.has(0, i), (a >> 2 - i & 1) != 0);
            }
            due("next", x.next(), a < 7 ? 1 : 0);
        }
        due("none present", x.told(5), 0);
        dueThrow("behind the last", STATE, x::next);
        Finder y = new Finder(5);
        y.relation(name("r"), 2);
        y.boundAll(0, 3, 15, 1);
        y.fact("# r = 11");
        int found = y.solve();
        for (int out = 0; out < 12; out++) {
            due("found", found, 1);
            due("one is out", y.has(0, 3 + out), false);
            due("the others are in", y.value("r"), 11);
            found = y.next();
        }
        due("no more", found, 0);
    }

    private static void check() {
        of("promise 11");
        Finder x = new Finder(3);
        dueThrow("no assertion", STATE, x::check);
        x.solve();
        dueThrow("no assertion", STATE, x::check);
        due("a present one stays", x.told(5), 1);
        x.relation(name("p"), 1);
        x.boundAll(0, 0, 3, 1);
        x.fact("some p");
        x.claim("# p < 2");
        due("check", x.check(), 1);
        due("least", x.has(0, 0), false);
        due("least", x.has(0, 1) && x.has(0, 2), true);
        due("next is any instance", x.next(), 1);
        due("next", x.has(0, 0) && !x.has(0, 1) && !x.has(0, 2), true);
        x.claim("some p");
        due("none", x.check(), 0);
        due("none present", x.told(5), 0);
        x.fact("false");
        x.claim("false");
        due("no instance", x.check(), 0);
    }

    private static void has() {
        of("promise 12");
        Finder x = new Finder(2);
        dueThrow("no relation", INDEX, () -> x.has(0, 0));
        x.relation(name("r"), 2);
        dueThrow("none present", STATE, () -> x.has(0, 0));
        dueThrow("no tuple first", INDEX, () -> x.has(0, 4));
        dueThrow("tuple -1", INDEX, () -> x.has(0, -1));
        x.bound(0, 0, 2);
        x.bound(0, 1, 1);
        x.bound(0, 3, 1);
        x.fact("# r = 3");
        x.solve();
        dueThrow("no tuple", INDEX, () -> x.has(0, 4));
        dueThrow("relation 1", INDEX, () -> x.has(1, 0));
        dueThrow("relation -1", INDEX, () -> x.has(-1, 0));
        due("in", x.has(0, 0), true);
        due("free", x.has(0, 1), true);
        due("out", x.has(0, 2), false);
        due("free", x.has(0, 3), true);
    }

    private static void count() {
        of("promise 13");
        int total = 1;
        for (int free = 0; free <= 12; free++) {
            Finder x = new Finder(4);
            x.relation(name("r"), 2);
            x.boundAll(0, 0, free, 1);
            due(free + " free", x.count(), total);
            due("number " + free, x.fact("#r=" + Math.min(2, free)), 0);
            due("of " + free, x.count(), free < 2 ? 1 : free * (free - 1) / 2);
            x.fact("false");
            due("none", x.count(), 0);
            due("nothing present", x.told(5), 0);
            total *= 2;
        }
    }

    /** Parts that use few of the names around them are not worked out anew each time. */
    private static void countNested() {
        of("promise 13, nested");
        Finder x = new Finder(3);
        x.relation(name("p"), 1);
        x.relation(name("q"), 1);
        x.boundAll(0, 0, 3, 1);
        x.boundAll(1, 0, 3, 1);
        x.fact("all a : univ | all b : p | some c : q | c = b");
        due("p in q", x.count(), 27);
        x.back();
        x.fact("all a : p | all b : univ | some c : q | a = c");
        due("p in q", x.count(), 27);
        x.back();
        x.fact("all a : p | all b : q | all c : univ | all d : univ | some e : a + b | c = d implies e = b");
        due("all", x.count(), 64);
        x.back();
        x.fact("all a : univ | some b : p | b in {c : q | c = c}");
        due("p meets q", x.count(), 64 - 27);
        x.back();
        x.fact("all a : p | some b : univ | some {c : q | c = a}");
        due("p in q", x.count(), 27);
        x.back();
        x.fact("some a : univ | some b : univ | no {c : univ | c in a + b} - p and some c : q | no d : p | c = d");
        due("some p, some of q that p has not", x.count(), 30);
        x.back();
        x.fact("all a : univ | all b : univ | all c : univ | some d : univ | a in p implies b in q");
        due("no p, or all q", x.count(), 15);
        x.back();
        x.fact("all a : univ | all b : univ | all c : univ | b in {d : q | a in p} or not a + b = c");
        due("one all p and all q", x.count(), 1);
        x.back();
        x.fact("all a : univ | all b : univ | all c : univ | all d : univ | some e : univ | a in p implies b in q or c in p");
        due("no p, or all q, or all p", x.count(), 22);
        x.bound(0, 0, 2);
        due("the same with an atom in p", x.count(), 11);
        Finder y = new Finder(5);
        y.relation(name("p"), 1);
        y.boundAll(0, 0, 5, 1);
        String deep = "";
        for (char c = 'a'; c < 'p'; c++) {
            deep += "all " + c + ":univ|";
        }
        y.fact(deep + "some x:p|x=o");
        due("all of them", y.count(), 1);
        y.fact(deep.replace("all", "no") + "false");
        due("15 times no, and false", y.count(), 1);
        y.fact("no z : univ | " + deep.replace("all", "no") + "false");
        due("16 times no, and false", y.count(), 0);
    }

    private static void unlike() {
        of("promise 14");
        Finder x = new Finder(4);
        x.relation(name("p"), 1);
        x.boundAll(0, 0, 4, 1);
        due("by size", x.unlike(), 5);
        x.fact("some p");
        due("some", x.unlike(), 4);
        x.bound(0, 0, 2);
        due("one is in", x.unlike(), 4);
        Finder y = new Finder(3);
        y.relation(name("r"), 2);
        for (int i = 0; i < 9; i++) {
            y.bound(0, i, 1);
        }
        due("binary relations on 3", y.unlike(), 104);
        y.fact("no r & iden");
        due("digraphs on 3", y.unlike(), 16);
        y.fact("r = ~r");
        due("graphs on 3", y.unlike(), 4);
        due("graphs with names", y.count(), 8);
        Finder z = new Finder(4);
        z.relation(name("r"), 2);
        for (int i = 0; i < 16; i++) {
            if (i % 5 != 0) {
                z.bound(0, i, 1);
            }
        }
        due("digraphs on 4", z.unlike(), 218);
        z.fact("r = ~r");
        due("graphs on 4", z.unlike(), 11);
        z.fact("false");
        due("none", z.unlike(), 0);
    }

    private static void fair() {
        of("promise 15");
        int[] all = {1, 1, 2, 6, 24, 120};
        for (int n = 1; n <= 5; n++) {
            Finder x = new Finder(n);
            due("no relation", x.fair(), all[n]);
            x.relation(name("p"), 1);
            due("all out", x.fair(), all[n]);
            x.bound(0, 0, 1);
            due("one free", x.fair(), all[n - 1]);
            x.fact("false");
            due("facts don't matter", x.fair(), all[n - 1]);
            x.bound(0, 0, 2);
            due("one in", x.fair(), all[n - 1]);
        }
        Finder y = new Finder(5);
        y.relation(name("r"), 2);
        for (int i = 0; i < 5; i++) {
            y.bound(0, i * 5 + (i + 1) % 5, 2);
        }
        due("a ring", y.fair(), 5);
        for (int i = 0; i < 5; i++) {
            y.bound(0, (i + 1) % 5 * 5 + i, 2);
        }
        due("a ring both ways", y.fair(), 10);
        y.bound(0, 1, 1);
        due("one free of them", y.fair(), 1);
        y.bound(0, 5, 1);
        due("both ways", y.fair(), 2);
        y.relation(name("t"), 3);
        y.bound(1, 31, 2);
        due("a row of 1 1 1", y.fair(), 1);
    }

    private static void core() {
        of("promise 16");
        Finder x = new Finder(3);
        dueThrow("no facts", STATE, x::core);
        x.relation(name("p"), 1);
        x.boundAll(0, 0, 3, 1);
        x.fact("some p");
        dueThrow("an instance", STATE, x::core);
        x.fact("lone p");
        x.fact("# p > 1");
        due("core", x.core(), 2);
        due("0 is left out", x.isInCore(0), false);
        due("1", x.isInCore(1), true);
        due("2", x.isInCore(2), true);
        x.fact("no p");
        due("from the first one on", x.core(), 2);
        due("0", x.isInCore(0), false);
        due("1 is left out for good", x.isInCore(1), false);
        due("2", x.isInCore(2), true);
        due("3", x.isInCore(3), true);
        x.fact("false");
        due("the last alone", x.core(), 1);
        due("4", x.isInCore(4), true);
        x.back();
        x.back();
        x.back();
        dueThrow("an instance again", STATE, x::core);
    }

    private static void isInCore() {
        of("promise 17");
        Finder x = new Finder(2);
        dueThrow("none", INDEX, () -> x.isInCore(0));
        x.fact("false");
        due("before", x.isInCore(0), false);
        dueThrow("-1", INDEX, () -> x.isInCore(-1));
        dueThrow("1", INDEX, () -> x.isInCore(1));
        x.core();
        due("told", x.isInCore(0), true);
        x.fact("false");
        due("came since", x.isInCore(1), false);
        due("told last", x.isInCore(0), true);
        x.core();
        due("told again", x.isInCore(1), true);
        due("left out now", x.isInCore(0), false);
        x.back();
        x.fact("true");
        due("another one came since", x.isInCore(1), false);
        x.back();
        x.back();
        dueThrow("gone", INDEX, () -> x.isInCore(0));
        x.fact("true");
        dueThrow("an instance", STATE, x::core);
        due("a new one", x.isInCore(0), false);
        Finder y = new Finder(2);
        y.fact("false");
        y.core();
        y.relation(name("p"), 1);
        y.bound(0, 0, 1);
        due("as it was told last", y.isInCore(0), true);
    }

    private static Finder valueWorld() {
        Finder x = new Finder(3);
        x.relation(name("r"), 2);
        x.relation(name("s"), 2);
        x.relation(name("p"), 1);
        x.relation(name("t"), 3);
        for (int i : new int[] {1, 5}) {
            x.bound(0, i, 2);
        }
        for (int i : new int[] {1, 3, 8}) {
            x.bound(1, i, 2);
        }
        x.bound(2, 1, 2);
        for (int i : new int[] {5, 10, 26}) {
            x.bound(3, i, 2);
        }
        x.solve();
        return x;
    }

    private static void value() {
        of("promise 18");
        Finder x = new Finder(3);
        x.put("univ");
        dueThrow("none present", STATE, x::value);
        due("used up", x.told(6), 0);
        dueTuples("univ", 1, "111");
        dueTuples("none", 1, "000");
        dueTuples("iden", 2, "100010001");
        dueTuples("r", 2, "010001000");
        dueTuples("r + s", 2, "010101001");
        dueTuples("s - r", 2, "000100001");
        dueTuples("s - r - s", 2, "000000000");
        dueTuples("s - (r - s)", 2, "010100001");
        dueTuples("r - s + s", 2, "010101001");
        dueTuples("r & s", 2, "010000000");
        dueTuples("r + s & r", 2, "010001000");
        dueTuples("p -> univ", 2, "000111000");
        dueTuples("univ -> p & r", 2, "010000000");
        dueTuples("p -> p -> univ", 3, "000000000000111000000000000");
        dueTuples("r -> p", 3, "000010000000000010000000000");
        dueTuples("r ++ s", 2, "010100001");
        dueTuples("s ++ r", 2, "010001001");
        dueTuples("iden ++ r", 2, "010001001");
        dueTuples("(univ -> univ) ++ ~r", 2, "111100010");
        dueTuples("(univ -> univ) ++ (p -> p)", 2, "111010111");
        dueTuples("p <: r", 2, "000001000");
        dueTuples("r :> p", 2, "010000000");
        dueTuples("p <: p", 1, "010");
        dueTuples("p <: t", 3, "000000000010000000000000000");
        dueTuples("t :> p", 3, "000000000010000000000000000");
        dueTuples("p <: r :> p", 2, "000000000");
        dueTuples("p -> univ :> p", 2, "000010000");
        dueTuples("r . s", 2, "100001000");
        dueTuples("s . r", 2, "001010000");
        dueTuples("p . r", 1, "001");
        dueTuples("r . p", 1, "100");
        dueTuples("t . p", 2, "000100000");
        dueTuples("p . t", 2, "010000000");
        dueTuples("t . s", 3, "000001000100000000000000001");
        dueTuples("r . t", 3, "010000000000000001000000000");
        dueTuples("p . t . p", 1, "100");
        dueTuples("~ r", 2, "000100010");
        dueTuples("~~r", 2, "010001000");
        dueTuples("^ r", 2, "011001000");
        dueTuples("* r", 2, "111011001");
        dueTuples("^s", 2, "110110001");
        dueTuples("p.~r", 1, "100");
        dueTuples("p.*r", 1, "011");
        dueTuples("~(r.r)", 2, "000000100");
        dueTuples("{x : univ | some x.r}", 1, "110");
        dueTuples("{ p : univ | p = p } - p", 1, "101");
        dueTuples("{x: p | x in x}", 1, "010");
        dueTuples("{x : univ | x in {x : univ | some x.s and some r.x}}", 1, "011");
        dueTuples("{x : {y: univ | some y.r} | x in p}", 1, "010");
        Finder y = valueWorld();
        y.value("{x: p | x in x}");
        due("fault", y.value("p . p"), -3);
        due("a fault works out nothing", y.isIn(1), true);
        due("arity stays", y.told(7), 1);
        due("formula", y.value("p = p"), -3);
        due("fault", y.fault(false), 7);
    }

    private static void isIn() {
        of("promise 19");
        Finder x = new Finder(2);
        due("before", x.isIn(0), false);
        x.solve();
        x.value("univ -> univ -> univ");
        due("0", x.isIn(0), true);
        due("7", x.isIn(7), true);
        due("8", x.isIn(8), false);
        due("-1", x.isIn(-1), false);
        due("most", x.isIn(Integer.MAX_VALUE), false);
        due("least", x.isIn(Integer.MIN_VALUE), false);
        x.relation(name("p"), 1);
        dueThrow("none present", STATE, x::value);
        due("stays", x.isIn(7), true);
        x.solve();
        x.value("univ");
        due("1", x.isIn(1), true);
        due("2", x.isIn(2), false);
        Finder y = new Finder(5);
        y.solve();
        due("125", y.value("univ->univ->univ"), 125);
        due("124", y.isIn(124), true);
        due("125", y.isIn(125), false);
    }

    private static Finder holdsWorld() {
        Finder x = new Finder(3);
        x.relation(name("r"), 2);
        x.relation(name("p"), 1);
        x.relation(name("e"), 1);
        x.bound(0, 1, 2);
        x.bound(0, 2, 2);
        x.bound(1, 0, 2);
        x.solve();
        return x;
    }

    private static void holds() {
        of("promise 20");
        Finder x = new Finder(3);
        x.put("true");
        dueThrow("none present", STATE, x::holds);
        due("used up", x.told(6), 0);
        String[] yes = {"true", "not false", "not not true", "[true]", "true or false", "false or true",
            "false implies false", "false implies true", "true implies true", "true iff true",
            "false iff false", "true iff false iff false", "true or true and false",
            "not false and true", "not [true and false]", "false implies true implies false",
            "false and true or true", "false iff true implies false", "not true or true",
            "some r", "some p", "no e", "lone p", "lone e", "one p", "# r = 2", "#r<3", "#r > 1",
            "# r < 999", "# e = 0", "#e=000", "# r = 02", "p in univ", "e in p", "p in p", "p = p",
            "p + e = p", "r in r + ~r", "not p in e", "not r = ~r",
            "all x : univ | x in univ", "all x: none | false", "some x: univ | x = p",
            "no x: univ | x in x.r", "no x: none | true", "lone x: univ | some x.r",
            "lone x: univ | false", "one x: univ | some x.r", "one p: univ - p | p.r = none and 3 = 3",
            "all x: univ | x in p or no x.r", "some x: p | all y: univ - x | y in x.r",
            "all x: p | true and some x.r", "all x: univ | some x: p | x in p",
            "some p : univ | not p.r = none", "some p", "lone p :> p", "one p & p"};
        for (String text : yes) {
            boolean isFault = text.contains("3 = 3");
            due(text, holdsWorld().holds(text), isFault ? -1 - text.indexOf("3 = 3") : 1);
        }
        String[] no = {"false", "not true", "[false]", "true and false", "false or false",
            "true implies false", "true iff false", "true implies false implies false and false iff false",
            "some e", "no p", "lone r", "one r", "one e", "# r = 3", "# r < 2", "# r > 2", "# r > 999",
            "# r = 130", "univ in p", "p = e", "r = ~r", "all x: univ | x in p", "some x: none | true",
            "no x: univ | x in p", "lone x: univ | no x.r", "one x: univ | no x.r", "one x: none | true",
            "all x: univ | all x: p | x.r = x", "false and all x: univ | true or true",
            "not all x: univ | false or true"};
        for (String text : no) {
            due(text, holdsWorld().holds(text), 0);
        }
        Finder y = holdsWorld();
        due("fault", y.holds("univ"), -5);
        due("expression", y.fault(false), 2);
        due("the present one stays", y.told(5), 1);
    }

    private static void told() {
        of("promise 21");
        Finder x = new Finder(4);
        x.relation(name("p"), 1);
        x.relation(name("r"), 2);
        x.relation(name("t"), 3);
        x.bound(0, 0, 1);
        x.bound(1, 0, 1);
        x.bound(1, 1, 2);
        x.fact("true");
        x.claim("true");
        x.solve();
        x.value("r");
        x.put("some");
        int[] due = {4, 3, 2, 1, 1, 1, 4, 2};
        for (int what = 0; what < due.length; what++) {
            due("told(" + what + ")", x.told(what), due[what]);
        }
        for (int what : new int[] {-1, 8, Integer.MAX_VALUE, Integer.MIN_VALUE}) {
            due("told(" + what + ")", x.told(what), -1);
        }
        x.fact();
        x.value("t");
        due("arity", x.told(7), 3);
    }

    /** THE PRESENT ONE goes with each change of what it is of, and with no other call. */
    private static void presentOneGoes() {
        of("the present one");
        Finder x = new Finder(2);
        x.solve();
        x.relation(name("p"), 1);
        due("relation", x.told(5), 0);
        x.solve();
        x.bound(0, 0, 0);
        due("bound", x.told(5), 0);
        x.solve();
        x.fact("true");
        due("fact", x.told(5), 0);
        x.solve();
        x.claim("true");
        due("claim", x.told(5), 0);
        x.solve();
        x.back();
        due("back", x.told(5), 0);
        x.solve();
        dueThrow("relation", ARGUMENT, () -> x.relation(name("p"), 1));
        dueThrow("bound", INDEX, () -> x.bound(0, 2, 1));
        dueThrow("bound", ARGUMENT, () -> x.bound(0, 0, 3));
        dueThrow("back", STATE, x::back);
        x.fact("tru");
        x.claim("tru");
        x.count();
        x.unlike();
        x.fair();
        dueThrow("core", STATE, x::core);
        x.value("p");
        x.holds("no p");
        due("stays", x.told(5), 1);
    }
}
