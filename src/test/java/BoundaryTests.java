/** The boundary cases that the promises name, sentence by sentence, and those of 'What it is'. */
public final class BoundaryTests extends Checks {
    private static final int LEAST = Integer.MIN_VALUE;
    private static final int MOST = Integer.MAX_VALUE;

    public static void main(String[] args) {
        nearestAtoms();
        nothingAtFirst();
        lowestBytes();
        sixHundredBytes();
        faultOfLatestText();
        namesOfRelations();
        aritiesOfRelations();
        eightRelations();
        whatItWas();
        twelveFree();
        orderOfFree();
        placesOfFaults();
        sixteenFacts();
        howManyAreLeft();
        assertionBeforeStays();
        noFreeTuple();
        twelveFreeTuples();
        noInstance();
        checkWithoutCounterExample();
        hasInOrder();
        noneOneAndAll();
        noRelationAtAll();
        renamings();
        coreFromTheFirst();
        coreAsToldLast();
        valuesAtTheEdges();
        workedOutLast();
        holdsInPresent();
        tolds();
        presentGoes();
        presentStays();
        end("the boundary cases are as due");
    }

    // ---- promise 1

    private static void nearestAtoms() {
        of("1 .. 5 (another number counts as the nearest of these)");
        int[] given = {LEAST, LEAST + 1, -5, -1, 0, 1, 2, 3, 4, 5, 6, 7, 8, 100, MOST - 1, MOST};
        int[] atoms = {1, 1, 1, 1, 1, 1, 2, 3, 4, 5, 5, 5, 5, 5, 5, 5};
        for (int i = 0; i < given.length; i++) {
            int n = atoms[i];
            Finder x = new Finder(given[i]);
            due("told(0) of " + given[i], x.told(0), n);
            x.relation("a", 1);
            x.relation("b", 2);
            x.relation("c", 3);
            int size = 1;
            for (int arity = 1; arity <= 3; arity++) {
                size *= n;
                int relation = arity - 1;
                int behind = size;
                due("last tuple of " + arity, x.bound(relation, size - 1, 2), 0);
                dueThrow("no tuple of " + arity, INDEX, () -> x.bound(relation, behind, 2));
            }
            x.solve();
            due("univ of " + given[i], x.value("univ"), n);
            due("all pairs", x.value("univ->univ"), n * n);
            due("all triples", x.value("univ->univ->univ"), n * n * n);
            due("the last of each", x.holds("a->a=b and b->a=c and #c=1"), 1);
        }
    }

    private static void nothingAtFirst() {
        of("no relations, FACTS, ASSERTION; an empty tape");
        for (int n = 1; n <= 5; n++) {
            Finder x = new Finder(n);
            for (int what = 1; what <= 7; what++) {
                due("told(" + what + ")", x.told(what), 0);
            }
            dueThrow("bound", INDEX, () -> x.bound(0, 0, 0));
            dueThrow("back", STATE, x::back);
            dueThrow("check", STATE, x::check);
            dueThrow("next", STATE, x::next);
            dueThrow("isInCore", INDEX, () -> x.isInCore(0));
            due("nothing on the tape", x.fact(), -1);
            due("one assignment", x.count(), 1);
            due("first relation", x.relation("p", 1), 0);
            due("first fact", x.fact("true"), 0);
        }
    }

    // ---- promise 2

    private static void lowestBytes() {
        of("The lowest n bytes of a number, the highest of these first");
        for (int n = 1; n <= 8; n++) {
            for (long number : new long[] {Finder.name("abcdefgh"), Finder.name("$$$$$$$$"), 0L, -1L, Long.MIN_VALUE, Long.MAX_VALUE}) {
                dueBytes(number, n);
            }
        }
        Finder x = new Finder(2);
        due("n 8, from the highest on", x.feed(Finder.name("true or "), 8), 8);
        due("n 5", x.feed(Finder.name("$$$false"), 5), 13);
        due("fact", x.fact(), 0);
        due("above the lowest 4 is anything", x.feed(0xFFFFFFFF00000000L | Finder.name("true"), 4), 4);
        due("fact", x.fact(), 1);
        due("a negative number of 8 bytes", x.feed(0xA0A0A0A074727565L, 8), 8);
        due("bytes over 127 are no blanks", x.fact(), -1);
        due("fault", x.fault(false), 1);
        due("zeros before", x.feed(Finder.name("true"), 8), 8);
        due("are blanks", x.fact(), 2);
        due("the highest bit alone", x.feed(Long.MIN_VALUE, 8), 8);
        due("128 comes first", x.fact(), -1);
        due("and is no token", x.fault(false), 1);
        due("without it", x.feed(Long.MIN_VALUE, 7), 7);
        due("blanks alone", x.fact(), -8);
        of("n is not 1 .. 8");
        for (int n : new int[] {LEAST, -8, -1, 0, 9, 10, 16, 64, 600, MOST}) {
            dueThrow("n " + n, ARGUMENT, () -> x.feed(1, n));
        }
    }

    /** Which bytes came is seen by where the first one stands that is no blank, and by what it is. */
    private static void dueBytes(long number, int n) {
        Finder x = new Finder(2);
        String what = "feed(" + number + ", " + n + ")";
        due(what, x.feed(number, n), n);
        due(what + " bytes", x.told(6), n);
        int place = 0;
        while (place < n && byteAt(number, n, place) <= 32) {
            place++;
        }
        int first = place < n ? byteAt(number, n, place) : 0;
        boolean isLetter = first >= 'a' && first <= 'z';
        boolean isLong = isLetter && n > 6;
        due(what + " fact", x.fact(), -1 - place);
        due(what + " fault", x.fault(false), place == n ? 2 : isLetter && !isLong ? 4 : 1);
    }

    private static int byteAt(long number, int n, int place) {
        return (int) (number >>> 8 * (n - 1 - place) & 255);
    }

    private static void sixHundredBytes() {
        of("there would be more than 600 (just 600 are none too many)");
        for (int last = 1; last <= 8; last++) {
            Finder x = new Finder(2);
            x.put(" ".repeat(600 - last));
            int n = last;
            if (last < 8) {
                dueThrow("one too many", UNSUPPORTED, () -> x.feed(32, n + 1));
            }
            due("as before", x.told(6), 600 - last);
            due("just 600", x.feed(Finder.name("    true"), last), 600);
            for (int more = 1; more <= 8; more++) {
                int m = more;
                dueThrow("600 and " + more, UNSUPPORTED, () -> x.feed(32, m));
            }
            due("600", x.told(6), 600);
            due("the last of them are read", x.fact(), last < 4 ? -1 - (600 - last) : 0);
            due("empty again", x.feed(32, 8), 8);
        }
    }

    // ---- promise 3

    private static void faultOfLatestText() {
        of("0 for none, NONE for none, 0 before any");
        Finder x = new Finder(2);
        due("before any", x.fault(false), 0);
        due("place before any", x.fault(true), 0);
        x.put("true $");
        due("a text that was not read yet", x.fault(false), 0);
        due("its place", x.fault(true), 0);
        dueThrow("value", STATE, x::value);
        due("nor by a call that throws", x.fault(false), 0);
        due("its place", x.fault(true), 0);
        x.fact("true");
        due("none", x.fault(false), 0);
        due("NONE", x.fault(true), RelationFinder.NONE);
        x.fact("$");
        due("place 0", x.fault(true), 0);
        due("1", x.fault(false), 1);
        String[] texts = {"true !", "true  or", "true or   )", "no foo", "univ in iden", "[".repeat(21), "true true"};
        int[] kinds = {1, 2, 3, 4, 5, 6, 7};
        int[] places = {5, 8, 10, 3, 5, 20, 5};
        x.solve();
        for (int i = 0; i < texts.length; i++) {
            due(texts[i], x.claim(texts[i]), -1 - places[i]);
            due(texts[i], x.fault(false) + " at " + x.fault(true), kinds[i] + " at " + places[i]);
            x.holds("true");
            due("none", x.fault(false) + " at " + x.fault(true), "0 at -1");
            x.holds(texts[i]);
            due(texts[i], x.fault(false) + " at " + x.fault(true), kinds[i] + " at " + places[i]);
            x.value("univ");
            due("none", x.fault(false) + " at " + x.fault(true), "0 at -1");
            x.fact(texts[i]);
            due(texts[i], x.fault(false) + " at " + x.fault(true), kinds[i] + " at " + places[i]);
        }
        x.value("univ . univ");
        due("of value", x.fault(false) + " at " + x.fault(true), "5 at 5");
        x.count();
        x.relation("p", 1);
        x.put("$");
        due("stays until the next text", x.fault(false) + " at " + x.fault(true), "5 at 5");
        x.claim();
        due("the next text", x.fault(false) + " at " + x.fault(true), "1 at 0");
    }

    // ---- promise 4

    private static void namesOfRelations() {
        of("IllegalArgument: no NAME, one that a relation has");
        Finder x = new Finder(2);
        String[] good = {"a", "z", "aaaaaa", "zzzzzz", "az", "allx", "im", "nones"};
        String[] wrong = {"", "aaaaaaa", "aaaaaaaa", "`", "{", "A", "Z", "a0", "0", " a", "a ", "a b", "a\0", "\0\0", "a\0a", "\u00e1",
            "all", "some", "no", "lone", "one", "not", "and", "or", "implies", "iff", "in", "none", "univ", "iden", "true", "false"};
        for (String name : wrong) {
            dueThrow("relation " + name, ARGUMENT, () -> x.relation(name, 1));
        }
        for (long name : new long[] {0, -1, 1, Long.MIN_VALUE, Long.MAX_VALUE, 0xFF00000000000061L, 0x0100000000000061L,
            0x0061000000000061L, 0x6161616161616161L}) {
            dueThrow("relation " + name, ARGUMENT, () -> x.relation(name, 1));
        }
        due("none was made", x.told(1), 0);
        for (int i = 0; i < good.length; i++) {
            due("relation " + good[i], x.relation(good[i], 1), i);
            if (i < 7) {
                String name = good[i];
                dueThrow("again " + name, ARGUMENT, () -> x.relation(name, 1));
                dueThrow("again, of another arity " + name, ARGUMENT, () -> x.relation(name, 2));
            }
        }
        due("zeros before a name are none of it", x.fact("no a and no zzzzzz"), 0);
    }

    private static void aritiesOfRelations() {
        of("IllegalArgument: no ARITY");
        Finder x = new Finder(2);
        for (int arity : new int[] {LEAST, -1, 0, 4, 5, MOST}) {
            dueThrow("arity " + arity, ARGUMENT, () -> x.relation("p", arity));
        }
        due("none was made", x.told(1), 0);
        for (int arity = 1; arity <= 3; arity++) {
            due("arity " + arity, x.relation("p" + "xyz".charAt(arity - 1), arity), arity - 1);
        }
        x.solve();
        due("all tuples OUT", x.present(), "00 0000 00000000");
        due("none is FREE", x.told(2), 0);
        x.value("pz");
        due("of arity 3", x.told(7), 3);
    }

    private static void eightRelations() {
        of("UnsupportedOperation: there are 8");
        Finder x = new Finder(5);
        for (int i = 0; i < 8; i++) {
            due("relation " + i, x.relation("r" + "abcdefgh".charAt(i), 3), i);
        }
        dueThrow("ninth", UNSUPPORTED, () -> x.relation("ri", 1));
        dueThrow("ninth, no name", ARGUMENT, () -> x.relation("ra", 1));
        due("8", x.told(1), 8);
        due("the last tuple of all", x.bound(7, 124, 2), 0);
        due("the first tuple of the last", x.bound(7, 0, 1), 0);
        dueThrow("no tuple", INDEX, () -> x.bound(7, 125, 1));
        dueThrow("no relation", INDEX, () -> x.bound(8, 0, 1));
        x.solve();
        x.next();
        due("both are in", x.value("rh"), 2);
        due("last", x.has(7, 124) && x.has(7, 0) && !x.has(6, 124), true);
    }

    // ---- promise 5

    private static void whatItWas() {
        of("A tuple is OUT (0), FREE (1) or IN (2): what it was");
        Finder x = new Finder(2);
        x.relation("p", 1);
        x.relation("t", 3);
        int[] hows = {0, 0, 1, 1, 2, 2, 0, 2, 1, 0};
        for (int[] at : new int[][] {{0, 0}, {0, 1}, {1, 0}, {1, 7}}) {
            int was = 0;
            for (int how : hows) {
                due("bound to " + how, x.bound(at[0], at[1], how), was);
                due("FREE", x.told(2), how == 1 ? 1 : 0);
                due("assignments", x.count(), how == 1 ? 2 : 1);
                was = how;
            }
        }
        of("IllegalArgument: another how");
        for (int how : new int[] {LEAST, -1, 3, 4, MOST}) {
            dueThrow("how " + how, ARGUMENT, () -> x.bound(0, 0, how));
        }
        due("as before", x.bound(0, 0, 2), 0);
        for (int how : new int[] {-1, 3}) {
            dueThrow("how " + how, ARGUMENT, () -> x.bound(0, 0, how));
        }
        due("as before", x.bound(0, 0, 0), 2);
    }

    private static void twelveFree() {
        of("there would be 13 FREE ones (a FREE one that is made FREE again is none more)");
        Finder x = new Finder(2);
        x.relation("p", 1);
        x.relation("r", 2);
        x.relation("t", 3);
        for (int i = 0; i < 12; i++) {
            due("FREE " + i, x.told(2), i);
            due("bound", i < 4 ? x.bound(1, i, 1) : x.bound(2, i - 4, 1), 0);
        }
        due("12", x.told(2), 12);
        dueThrow("13th", UNSUPPORTED, () -> x.bound(0, 0, 1));
        dueThrow("13th", UNSUPPORTED, () -> x.bound(0, 1, 1));
        for (int i = 0; i < 12; i++) {
            due("FREE again", i < 4 ? x.bound(1, i, 1) : x.bound(2, i - 4, 1), 1);
        }
        due("still 12", x.told(2), 12);
        due("IN", x.bound(0, 0, 2), 0);
        dueThrow("13th from IN", UNSUPPORTED, () -> x.bound(0, 0, 1));
        due("still IN", x.bound(0, 0, 0), 2);
        due("all of them", x.count(), 4096);
        due("one goes", x.bound(2, 7, 2), 1);
        due("11", x.told(2), 11);
        due("half of them", x.count(), 2048);
        due("another one comes", x.bound(0, 1, 1), 0);
        dueThrow("the one that went", UNSUPPORTED, () -> x.bound(2, 7, 1));
        due("one goes OUT", x.bound(1, 0, 0), 1);
        due("comes again", x.bound(2, 7, 1), 2);
        due("12 again", x.told(2), 12);
        due("all of them", x.count(), 4096);
    }

    private static void orderOfFree() {
        of("FREE tuples are in order: by relation, then by number");
        Finder x = new Finder(2);
        x.relation("b", 2);
        x.relation("a", 1);
        x.bound(1, 1, 1);
        x.bound(0, 3, 1);
        x.bound(1, 0, 2);
        x.bound(0, 1, 1);
        String[] due = {"0000 10", "0000 11", "0001 10", "0001 11", "0100 10", "0100 11", "0101 10", "0101 11"};
        int found = x.solve();
        for (String assignment : due) {
            due("found", found, 1);
            due("assignment", x.present(), assignment);
            found = x.next();
        }
        due("no more", found, 0);
    }

    // ---- promises 6, 7, 8

    private static void placesOfFaults() {
        of("fact, claim, value, holds: -1 less the place of a FAULT");
        for (int place : new int[] {0, 1, 7, 8, 255, 256, 599}) {
            String text = " ".repeat(place) + "$";
            Finder x = new Finder(2);
            x.solve();
            due("value", x.value(text), -1 - place);
            due("holds", x.holds(text), -1 - place);
            due("claim", x.claim(text), -1 - place);
            due("fact", x.fact(text), -1 - place);
            due("place", x.fault(true), place);
        }
        Finder x = new Finder(2);
        x.put(" ".repeat(600));
        due("at the end of a full tape", x.fact(), -601);
    }

    private static void sixteenFacts() {
        of("fact: UnsupportedOperation: there are 16");
        Finder x = new Finder(3);
        x.relation("p", 1);
        x.boundAll(0, 0, 3, 1);
        for (int i = 0; i < 15; i++) {
            due("fact " + i, x.fact("p=p"), i);
            due("a fault is no fact", x.fact("p=)"), -3);
            due("facts", x.told(3), i + 1);
        }
        due("15 facts", x.count(), 8);
        due("fact 15", x.fact("no p"), 15);
        due("the 16th counts", x.count(), 1);
        x.put("false");
        dueThrow("17th", UNSUPPORTED, x::fact);
        x.put("$");
        dueThrow("17th with a fault", UNSUPPORTED, x::fact);
        due("16", x.told(3), 16);
        due("as before", x.count(), 1);
        due("back", x.back(), 15);
        due("another 16th", x.fact("some p"), 15);
        due("counts", x.count(), 7);
    }

    private static void howManyAreLeft() {
        of("back: how many are left; there is none");
        Finder x = new Finder(3);
        x.relation("p", 1);
        x.boundAll(0, 0, 3, 1);
        dueThrow("none", STATE, x::back);
        for (int i = 0; i < 16; i++) {
            x.fact(i == 0 ? "some p" : i == 15 ? "no p" : "p=p");
        }
        due("none", x.count(), 0);
        for (int left = 15; left >= 0; left--) {
            due("left", x.back(), left);
            due("the latest went", x.count(), left == 0 ? 8 : 7);
            due("told", x.told(3), left);
        }
        dueThrow("none again", STATE, x::back);
        x.fact("$");
        dueThrow("a fault is no fact", STATE, x::back);
        x.claim("true");
        dueThrow("an assertion is no fact", STATE, x::back);
        due("the assertion stays", x.told(4), 1);
    }

    private static void assertionBeforeStays() {
        of("claim: -1 less the place of a FAULT (the one before stays)");
        Finder x = new Finder(3);
        x.relation("p", 1);
        x.boundAll(0, 0, 3, 1);
        due("a fault", x.claim("no p )"), -6);
        due("no assertion", x.told(4), 0);
        dueThrow("check", STATE, x::check);
        due("claim", x.claim("no p"), 0);
        due("assertion", x.told(4), 1);
        x.check();
        due("least counter-example", x.present(), "001");
        for (String text : new String[] {"lone p )", "lone p or", "", "$", "lone foo", "lone p.p"}) {
            due(text, x.claim(text) < 0, true);
            due("still there", x.told(4), 1);
            due("check", x.check(), 1);
            due("the one before", x.present(), "001");
        }
        due("another", x.claim("lone p"), 0);
        x.check();
        due("its counter-example", x.present(), "011");
        due("the same again", x.claim("lone p"), 0);
        due("it is no fact", x.told(3), 0);
        due("all are instances", x.count(), 8);
    }

    // ---- promises 9, 10, 11

    private static void noFreeTuple() {
        of("solve, next, check with no FREE tuple at all");
        Finder x = new Finder(2);
        x.relation("p", 1);
        x.bound(0, 1, 2);
        due("solve", x.solve(), 1);
        due("IN is in", x.present(), "01");
        due("next", x.next(), 0);
        due("none is present", x.told(5), 0);
        dueThrow("next", STATE, x::next);
        x.claim("no p");
        due("check", x.check(), 1);
        due("found", x.present(), "01");
        due("next", x.next(), 0);
        x.claim("some p");
        x.solve();
        due("check", x.check(), 0);
        due("none is present", x.told(5), 0);
        x.fact("no p");
        due("solve", x.solve(), 0);
        due("none is present", x.told(5), 0);
        dueThrow("has", STATE, () -> x.has(0, 1));
        due("check", x.check(), 0);
        due("core", x.core(), 1);
    }

    private static Finder twelve() {
        Finder x = new Finder(3);
        x.relation("r", 2);
        x.relation("p", 1);
        x.boundAll(0, 0, 9, 1);
        x.boundAll(1, 0, 3, 1);
        return x;
    }

    private static String bits(int assignment) {
        String text = Integer.toBinaryString(4096 + assignment).substring(1);
        return text.substring(0, 9) + " " + text.substring(9);
    }

    private static void twelveFreeTuples() {
        of("solve, next, check with 12 FREE tuples");
        Finder x = twelve();
        due("solve", x.solve(), 1);
        for (int i = 0; i < 130; i++) {
            if (i < 3 || i % 64 < 2 || i % 64 > 61) {
                due("assignment " + i, x.present(), bits(i));
            }
            due("next", x.next(), 1);
        }
        Finder y = twelve();
        y.fact("#r=9 and #p=3");
        due("the last alone", y.solve(), 1);
        due("all are in", y.present(), bits(4095));
        due("next", y.next(), 0);
        due("none is present", y.told(5), 0);
        due("solve again", y.solve(), 1);
        due("all are in", y.present(), bits(4095));
        Finder z = twelve();
        z.fact("#r+p->p>8");
        z.claim("some p");
        due("check", z.check(), 1);
        due("least counter-example", z.present(), bits(4088));
        due("next is the next INSTANCE", z.next(), 1);
        due("whatever the ASSERTION is there", z.present(), bits(4089));
        z.claim("not # r = 9 or not # p = 3");
        due("check", z.check(), 1);
        due("the last", z.present(), bits(4095));
        due("next", z.next(), 0);
        z.claim("# r < 10");
        due("no counter-example", z.check(), 0);
        due("none is present", z.told(5), 0);
        Finder w = twelve();
        w.claim("some r or some p");
        due("check", w.check(), 1);
        due("the first", w.present(), bits(0));
    }

    private static void noInstance() {
        of("solve, next: 0 if there is none (and none is present)");
        Finder x = twelve();
        x.fact("some p");
        x.solve();
        due("present", x.told(5), 1);
        x.fact("no p");
        due("solve", x.solve(), 0);
        due("none is present", x.told(5), 0);
        dueThrow("next", STATE, x::next);
        dueThrow("has", STATE, () -> x.has(0, 0));
        dueThrow("value", STATE, x::value);
        dueThrow("holds", STATE, x::holds);
        x.back();
        due("solve", x.solve(), 1);
        due("least", x.present(), bits(1));
        due("solve is from the first on", x.next() + x.next() + x.solve(), 3);
        due("least", x.present(), bits(1));
    }

    private static void checkWithoutCounterExample() {
        of("check: 0 if there is none (and none is present); there is no ASSERTION");
        Finder x = twelve();
        dueThrow("no assertion", STATE, x::check);
        x.solve();
        x.next();
        dueThrow("no assertion", STATE, x::check);
        due("the present one stays", x.present(), bits(1));
        x.fact("no p");
        x.claim("no p");
        x.solve();
        due("holds of all", x.check(), 0);
        due("none is present", x.told(5), 0);
        dueThrow("next", STATE, x::next);
        x.fact("some p");
        x.claim("false");
        due("no instance", x.check(), 0);
        x.back();
        due("each is a counter-example", x.check(), 1);
        due("least", x.present(), bits(0));
    }

    // ---- promise 12

    private static void hasInOrder() {
        of("has: no such relation, no such tuple, there is none, in this order");
        Finder x = new Finder(2);
        dueThrow("no relation, none present", INDEX, () -> x.has(0, 0));
        x.solve();
        dueThrow("no relation", INDEX, () -> x.has(0, 0));
        x.relation("p", 1);
        x.relation("t", 3);
        for (int round = 0; round < 2; round++) {
            for (int[] at : new int[][] {{2, 0}, {-1, 0}, {8, 0}, {LEAST, LEAST}, {MOST, MOST}, {0, 2}, {0, -1}, {1, 8}, {1, MOST}}) {
                dueThrow("has " + at[0] + " " + at[1], INDEX, () -> x.has(at[0], at[1]));
            }
            dueThrow("first tuple", round == 0 ? STATE : "0", () -> x.has(0, 0));
            dueThrow("last tuple", round == 0 ? STATE : "0", () -> x.has(0, 1));
            dueThrow("last of 3", round == 0 ? STATE : "0", () -> x.has(1, 7));
            x.solve();
        }
    }

    // ---- promises 13, 14, 15

    private static void noneOneAndAll() {
        of("count, unlike: none, one, and all assignments");
        for (int free = 0; free <= 12; free++) {
            Finder x = new Finder(4);
            x.relation("r", 2);
            x.boundAll(0, 0, free, 1);
            due("all of " + free, x.count(), 1 << free);
            x.fact("#r=" + free);
            due("one of " + free, x.count(), 1);
            due("one that has no less", x.unlike(), 1);
            x.fact("not r=r");
            due("none of " + free, x.count(), 0);
            due("none that has no less", x.unlike(), 0);
            due("none is present", x.told(5), 0);
            x.back();
            x.back();
            due("all of " + free, x.count(), 1 << free);
        }
        for (int n = 0; n <= 5; n++) {
            Finder x = new Finder(5);
            x.relation("p", 1);
            x.boundAll(0, 0, n, 1);
            due("all of " + n, x.count(), 1 << n);
            due("by number alone", x.unlike(), n + 1);
        }
        Finder y = new Finder(4);
        y.relation("r", 2);
        for (int i = 0; i < 16; i++) {
            if (i % 5 != 0) {
                y.bound(0, i, 1);
            }
        }
        due("graphs with arrows on 4 atoms", y.unlike(), 218);
        y.bound(0, 0, 2);
        due("with an atom that is told apart", y.count(), 4096);
        due("fewer are alike", y.unlike(), 752);
        y.fact("# r = 13");
        due("all", y.unlike(), 1);
        y.back();
        y.fact("# r = 1");
        due("none", y.unlike(), 1);
        y.fact("# r = 2");
        due("no instance", y.unlike(), 0);
    }

    private static void noRelationAtAll() {
        of("count, unlike, fair: no relation at all");
        int[] all = {1, 1, 2, 6, 24, 120};
        for (int n = 1; n <= 5; n++) {
            Finder x = new Finder(n);
            due("count", x.count(), 1);
            due("unlike", x.unlike(), 1);
            due("fair", x.fair(), all[n]);
            x.fact("false");
            due("count", x.count(), 0);
            due("unlike", x.unlike(), 0);
            due("fair", x.fair(), all[n]);
        }
    }

    private static void renamings() {
        of("fair: (that which leaves all, too)");
        Finder one = new Finder(1);
        one.relation("r", 2);
        one.bound(0, 0, 1);
        due("of one atom", one.fair(), 1);
        for (int n = 2; n <= 5; n++) {
            Finder x = new Finder(n);
            x.relation("r", 2);
            for (int i = 0; i + 1 < n; i++) {
                x.bound(0, i * n + i + 1, 2);
            }
            due("a chain has that alone", x.fair(), 1);
            x.bound(0, (n - 1) * n, 2);
            due("a ring has all turns", x.fair(), n);
            x.bound(0, (n - 1) * n, 1);
            due("FREE is not IN", x.fair(), 1);
        }
        Finder x = new Finder(5);
        x.relation("p", 1);
        x.boundAll(0, 0, 5, 1);
        due("all FREE", x.fair(), 120);
        x.boundAll(0, 0, 5, 2);
        due("all IN", x.fair(), 120);
        x.bound(0, 4, 1);
        due("one FREE", x.fair(), 24);
        x.bound(0, 3, 0);
        due("one OUT too", x.fair(), 6);
        x.relation("t", 3);
        due("a relation without tuples", x.fair(), 6);
        x.bound(1, 1, 1);
        due("0 0 1 is FREE", x.fair(), 1);
        x.bound(1, 1, 0);
        x.bound(1, 0, 1);
        due("0 0 0 is FREE", x.fair(), 2);
        x.fact("false");
        due("facts don't matter", x.fair(), 2);
    }

    // ---- promises 16, 17

    private static String coreOf(String... facts) {
        Finder x = new Finder(3);
        x.relation("p", 1);
        x.boundAll(0, 0, 3, 1);
        for (String fact : facts) {
            x.fact(fact);
        }
        String number = outcome(x::core);
        return number.startsWith("throws") ? number : number + " " + x.core(facts.length);
    }

    private static void coreFromTheFirst() {
        of("THE CORE: of all FACTS, from the first one to the last, each is left out for good");
        due("false", coreOf("false"), "1 1");
        due("twice", coreOf("false", "false"), "1 01");
        due("behind true", coreOf("true", "false", "true"), "1 010");
        due("first ones go first", coreOf("some p", "no p", "some p", "no p"), "2 0011");
        due("needed ones stay", coreOf("some p", "no p", "no p"), "2 101");
        due("three", coreOf("lone p", "some p", "not one p"), "3 111");
        due("three of five", coreOf("lone p", "p=p", "some p", "lone p", "not one p"), "3 00111");
        due("false at last", coreOf("lone p", "some p", "not one p", "false"), "1 0001");
        due("false at first", coreOf("false", "lone p", "some p", "not one p"), "3 0111");
        String[] sixteen = new String[16];
        java.util.Arrays.fill(sixteen, "no p");
        sixteen[0] = "some p";
        due("16", coreOf(sixteen), "2 1000000000000001");
        of("core: IllegalState: there is an INSTANCE");
        due("no facts", coreOf(), STATE);
        due("true", coreOf("true"), STATE);
        due("one instance", coreOf("#p=3"), STATE);
        due("some", coreOf("some p", "lone p"), STATE);
    }

    private static void coreAsToldLast() {
        of("isInCore: as it was told last; false before, and for one that came since");
        Finder x = new Finder(2);
        x.relation("p", 1);
        x.boundAll(0, 0, 2, 1);
        dueThrow("no such FACT", INDEX, () -> x.isInCore(0));
        x.fact("some p");
        x.fact("no p");
        due("before", x.core(2), "00");
        x.solve();
        due("solve tells none", x.core(2), "00");
        due("core", x.core(), 2);
        due("told", x.core(2), "11");
        x.fact("false");
        due("one that came since", x.core(3), "110");
        x.claim("true");
        x.bound(0, 0, 2);
        x.relation("q", 1);
        due("as it was told last", x.core(3), "110");
        due("core", x.core(), 1);
        due("told anew", x.core(3), "001");
        due("back", x.back(), 2);
        dueThrow("no such FACT", INDEX, () -> x.isInCore(2));
        due("those that are left", x.core(2), "00");
        x.fact("false");
        due("another one that came since", x.core(3), "000");
        x.back();
        due("core", x.core(), 1);
        due("told", x.core(2), "01");
        x.back();
        x.fact("some q or some p");
        dueThrow("an instance", STATE, x::core);
        due("one that came since, for it", x.core(2), "00");
        x.fact("no p");
        x.bound(0, 0, 0);
        due("core", x.core(), 2);
        due("told", x.core(3), "011");
        x.back();
        dueThrow("an instance", STATE, x::core);
        due("a core that is not told leaves the one before", x.core(2), "01");
        for (int fact : new int[] {2, 3, 15, 16, 31, 32, 33, -1, LEAST, MOST}) {
            dueThrow("no such FACT " + fact, INDEX, () -> x.isInCore(fact));
        }
    }

    // ---- promises 18, 19, 20

    private static void valuesAtTheEdges() {
        of("value: how many tuples it has");
        for (int n = 1; n <= 5; n++) {
            Finder x = new Finder(n);
            x.put("univ");
            dueThrow("there is no PRESENT ONE", STATE, x::value);
            x.solve();
            due("none", x.value("none->none->none"), 0);
            due("arity", x.told(7), 3);
            due("all", x.value("univ->univ->univ"), n * n * n);
            due("the last is in", x.isIn(n * n * n - 1), true);
            due("behind the last", x.isIn(n * n * n), false);
            due("one", x.value("{x:univ|no y:univ|not y=x}"), n == 1 ? 1 : 0);
            due("iden", x.value("iden"), n);
            due("the last is in", x.isIn(n * n - 1), true);
            x.put("univ");
            x.next();
            dueThrow("there is no PRESENT ONE any more", STATE, x::value);
            due("worked out last", x.told(7), 2);
        }
        Finder y = new Finder(3);
        y.relation("p", 1);
        y.boundAll(0, 0, 3, 1);
        y.solve();
        for (int i = 0; i < 8; i++) {
            due("in THE PRESENT ONE", y.value("p"), Integer.bitCount(i));
            due("and", y.worked().substring(0, 3), y.present());
            y.next();
        }
    }

    private static void workedOutLast() {
        of("isIn: in what value() worked out last; false before, and for a number that is none");
        Finder x = new Finder(2);
        x.relation("p", 1);
        for (int tuple : new int[] {LEAST, -1, 0, 1, 124, 125, MOST}) {
            due("before " + tuple, x.isIn(tuple), false);
        }
        due("arity before", x.told(7), 0);
        x.solve();
        due("a fault works out nothing", x.value("univ)"), -5);
        due("arity before", x.told(7), 0);
        due("before", x.worked(), "000000000");
        x.value("univ->univ->univ");
        due("all 8", x.worked(), "111111110");
        for (int tuple : new int[] {LEAST, -1, 8, 9, 124, 125, 126, 1000, MOST}) {
            due("none " + tuple, x.isIn(tuple), false);
        }
        x.value("univ + )");
        due("a fault works out nothing", x.worked(), "111111110");
        x.holds("no univ");
        x.bound(0, 0, 2);
        due("as it was worked out", x.worked(), "111111110");
        x.put("none");
        dueThrow("none present", STATE, x::value);
        due("a call that throws works out nothing", x.worked() + x.told(7), "1111111103");
        x.solve();
        x.value("univ->univ");
        due("fewer numbers", x.worked(), "111100000");
        x.value("p");
        due("fewer yet", x.worked(), "100000000");
        x.value("none");
        due("none", x.worked() + x.told(7), "0000000001");
    }

    private static void holdsInPresent() {
        of("holds: 1 or 0; -1 less the place of a FAULT; there is no PRESENT ONE");
        Finder x = new Finder(3);
        x.relation("p", 1);
        x.boundAll(0, 0, 3, 1);
        x.put("true");
        dueThrow("none", STATE, x::holds);
        x.solve();
        for (int i = 0; i < 8; i++) {
            due("some p", x.holds("some p"), i > 0 ? 1 : 0);
            due("# p = 3", x.holds("# p = 3"), i == 7 ? 1 : 0);
            due("lone p", x.holds("lone p"), Integer.bitCount(i) < 2 ? 1 : 0);
            due("fault at 0", x.holds("$"), -1);
            due("fault at 4", x.holds("p = "), -5);
            due("an expression is no formula", x.holds("p"), -2);
            due("next", x.next(), i < 7 ? 1 : 0);
        }
        x.put("true");
        dueThrow("none any more", STATE, x::holds);
        due("no fault was read", x.fault(false), 2);
    }

    // ---- promise 21

    private static void tolds() {
        of("told: each what from 0 to 7, 0 before, NONE for another what");
        Finder x = new Finder(4);
        dueTolds(x, 4, 0, 0, 0, 0, 0, 0, 0);
        x.relation("p", 1);
        dueTolds(x, 4, 1, 0, 0, 0, 0, 0, 0);
        x.bound(0, 3, 1);
        dueTolds(x, 4, 1, 1, 0, 0, 0, 0, 0);
        x.fact("p=p");
        dueTolds(x, 4, 1, 1, 1, 0, 0, 0, 0);
        x.claim("no p");
        dueTolds(x, 4, 1, 1, 1, 1, 0, 0, 0);
        x.solve();
        dueTolds(x, 4, 1, 1, 1, 1, 1, 0, 0);
        x.feed(0, 5);
        dueTolds(x, 4, 1, 1, 1, 1, 1, 5, 0);
        x.holds();
        dueTolds(x, 4, 1, 1, 1, 1, 1, 0, 0);
        x.value("p -> p -> p");
        dueTolds(x, 4, 1, 1, 1, 1, 1, 0, 3);
        x.value("p -> p");
        dueTolds(x, 4, 1, 1, 1, 1, 1, 0, 2);
        x.value("p + ");
        dueTolds(x, 4, 1, 1, 1, 1, 1, 0, 2);
        x.relation("q", 3);
        dueTolds(x, 4, 2, 1, 1, 1, 0, 0, 2);
        x.back();
        dueTolds(x, 4, 2, 1, 0, 1, 0, 0, 2);
        x.bound(0, 3, 2);
        dueTolds(x, 4, 2, 0, 0, 1, 0, 0, 2);
        for (int what : new int[] {LEAST, -2, -1, 8, 9, 16, 256, MOST}) {
            due("told(" + what + ")", x.told(what), RelationFinder.NONE);
        }
    }

    private static void dueTolds(Finder x, int... answers) {
        for (int what = 0; what < answers.length; what++) {
            due("told(" + what + ")", x.told(what), answers[what]);
        }
    }

    // ---- THE PRESENT ONE

    private static Finder withPresent() {
        Finder x = new Finder(2);
        x.relation("p", 1);
        x.boundAll(0, 0, 2, 1);
        x.fact("some p");
        x.claim("no p");
        due("none yet", x.told(5), 0);
        x.solve();
        x.next();
        due("present", x.present(), "10");
        return x;
    }

    private interface Call {
        Object on(Finder x);
    }

    private static void dueGone(String what, Call call) {
        Finder x = withPresent();
        call.on(x);
        due(what, x.told(5), 0);
        dueThrow(what + ", next", STATE, x::next);
        dueThrow(what + ", has", STATE, () -> x.has(0, 0));
        dueThrow(what + ", value", STATE, x::value);
        dueThrow(what + ", holds", STATE, x::holds);
    }

    private static void dueThere(String what, Call call) {
        Finder x = withPresent();
        outcome(() -> call.on(x));
        due(what, x.told(5), 1);
        due(what, x.present(), "10");
        due(what + ", next", x.next() + " " + x.present(), "1 11");
    }

    private static void presentGoes() {
        of("THE PRESENT ONE is none at first; it goes with each relation(), bound(), back(), and fact() and claim()");
        due("at first", new Finder(2).told(5), 0);
        dueGone("relation", x -> x.relation("q", 1));
        dueGone("bound", x -> x.bound(0, 0, 0));
        dueGone("bound to what it was", x -> x.bound(0, 0, 1));
        dueGone("back", x -> x.back());
        dueGone("fact", x -> x.fact("true"));
        dueGone("claim", x -> x.claim("true"));
        dueGone("solve without an instance", x -> x.fact("false") + x.solve());
        dueGone("next behind the last", x -> x.next() + x.next());
        dueGone("check without a counter-example", x -> x.claim("some p") + x.solve() + x.check());
    }

    private static void presentStays() {
        of("THE PRESENT ONE stays with a FAULT, and with calls that throw");
        dueThere("fact with a fault", x -> x.fact("true )"));
        dueThere("claim with a fault", x -> x.claim("true )"));
        dueThere("empty fact", x -> x.fact(""));
        dueThere("empty claim", x -> x.claim(""));
        dueThere("value with a fault", x -> x.value("p )"));
        dueThere("holds with a fault", x -> x.holds("p )"));
        dueThere("value", x -> x.value("p"));
        dueThere("holds", x -> x.holds("no p"));
        dueThere("relation that throws", x -> x.relation("p", 1));
        dueThere("bound without a tuple", x -> x.bound(0, 2, 1));
        dueThere("bound of another how", x -> x.bound(0, 0, 3));
        dueThere("core that throws", x -> x.core());
        dueThere("isInCore", x -> x.isInCore(0));
        dueThere("isInCore that throws", x -> x.isInCore(1));
        dueThere("feed", x -> x.feed(0, 1));
        dueThere("feed that throws", x -> x.feed(0, 0));
        dueThere("has that throws", x -> x.has(0, 2));
        dueThere("count", x -> x.count());
        dueThere("unlike", x -> x.unlike());
        dueThere("fair", x -> x.fair());
        dueThere("fault", x -> x.fault(true));
        dueThere("told", x -> x.told(5));
        dueThere("isIn", x -> x.isIn(0));
    }
}
