import java.util.ArrayList;
import java.util.HashMap;
import java.util.List;
import java.util.Map;
import java.util.Random;

/** Random runs of calls, compared with a slow finder that is written another way: by plain recursion. */
public final class ComparisonTests {
    private static int wrong = 0;
    private static final int[] seenFaults = new int[8];
    private static int goodTexts = 0;

    public static void main(String[] args) {
        int runs = args.length > 0 ? Integer.parseInt(args[0]) : 4000;
        int first = args.length > 1 ? Integer.parseInt(args[1]) : 1;
        for (int seed = first; seed < first + runs && wrong < 10; seed++) {
            new Run(seed).go();
        }
        StringBuilder seen = new StringBuilder("good texts " + goodTexts + ", faults");
        for (int kind = 1; kind <= 7; kind++) {
            seen.append(' ').append(kind).append(": ").append(seenFaults[kind]);
            if (seenFaults[kind] == 0) {
                wrong++;
            }
        }
        System.out.println(seen);
        System.out.println(wrong == 0 ? "both finders agree" : wrong + " differences");
        if (wrong != 0) {
            System.exit(1);
        }
    }

    // ---- the runs

    private static final class Run {
        /** The longest text needs 75 calls, and what is asked behind it some more. */
        static final int MOST_CALLS_OF_A_STEP = 130;
        final int seed;
        final Random random;
        final Finder x;
        final Slow y;
        final Texts texts;
        final List<String> log = new ArrayList<>();
        /** Few runs get more FREE tuples than this, since the slow finder is so slow. */
        int mostFree;

        Run(int seed) {
            this.seed = seed;
            random = new Random(seed);
            int atoms = random.nextInt(5) + 1;
            x = new Finder(atoms);
            y = new Slow(atoms);
            texts = new Texts(random, y);
            log.add("atoms " + atoms);
        }

        void go() {
            int relations = random.nextInt(5);
            for (int i = 0; i < relations; i++) {
                relation();
            }
            mostFree = random.nextInt(20) == 0 ? 12 : random.nextInt(8);
            int bounds = random.nextInt(30);
            for (int i = 0; i < bounds; i++) {
                bound();
            }
            int steps = mostFree > 8 ? 15 : 60;
            for (int i = 0; i < steps && wrong == 0 && x.calls() + MOST_CALLS_OF_A_STEP <= Finder.MOST_CALLS; i++) {
                step();
            }
        }

        void same(String call, Object got, Object want) {
            log.add(call + " = " + want);
            if (!got.equals(want)) {
                wrong++;
                System.out.println("seed " + seed + ": " + call + " answered " + got + ", due is " + want);
                for (String line : log) {
                    System.out.println("    " + line);
                }
            }
        }

        void step() {
            switch (random.nextInt(24)) {
                case 0: relation(); break;
                case 1: case 2: bound(); break;
                case 3: case 4: case 5: case 6: text(random.nextInt(4)); break;
                case 7: case 8: case 9: text(2); break;
                case 10: case 11: text(3); break;
                case 12: same("back", call(() -> x.back()), call(() -> y.back())); break;
                case 13: case 14: same("solve", call(() -> x.solve()), call(() -> y.solve())); break;
                case 15: case 16: same("next", call(() -> x.next()), call(() -> y.next())); break;
                case 17: same("check", call(() -> x.check()), call(() -> y.check())); break;
                case 18: has(); break;
                case 19: same("count", call(() -> x.count()), call(() -> y.count())); break;
                case 20: same("unlike", call(() -> x.unlike()), call(() -> y.unlike())); break;
                case 21: same("fair", call(() -> x.fair()), call(() -> y.fair())); break;
                case 22: core(); break;
                default: tolds(); break;
            }
        }

        void relation() {
            long name = Slow.name(Texts.NAMES[random.nextInt(Texts.NAMES.length)]);
            int arity = random.nextInt(20) == 0 ? 4 : random.nextInt(3) + 1;
            same("relation " + name + " " + arity, call(() -> x.relation(name, arity)), call(() -> y.relation(name, arity)));
        }

        void bound() {
            int r = random.nextInt(Math.max(1, y.names.size()));
            int top = r < y.names.size() ? y.size(y.arities.get(r)) : 1;
            int t = random.nextInt(15) == 0 ? random.nextInt(130) - 1 : random.nextInt(top);
            int how = random.nextInt(25) == 0 ? 3 : random.nextInt(y.frees() < mostFree ? 2 : 3);
            if (how == 1 && y.frees() >= mostFree && mostFree < 12) {
                how = 2;
            }
            bound(r, t, how);
        }

        void bound(int r, int t, int how) {
            same("bound " + r + " " + t + " " + how, call(() -> x.bound(r, t, how)), call(() -> y.bound(r, t, how)));
        }

        void text(int which) {
            String text = texts.next(which != 2);
            x.put(text);
            y.tape = text;
            switch (which) {
                case 0:
                    same("fact " + text, call(() -> x.fact()), call(() -> y.fact()));
                    same("count", call(() -> x.count()), call(() -> y.count()));
                    if (y.count() == 0 && random.nextInt(3) != 0) {
                        same("back", call(() -> x.back()), call(() -> y.back()));
                    }
                    break;
                case 1: same("claim " + text, call(() -> x.claim()), call(() -> y.claim())); break;
                case 2: same("value " + text, call(() -> x.value()), call(() -> y.value())); break;
                default: same("holds " + text, call(() -> x.holds()), call(() -> y.holds())); break;
            }
            same("fault", x.fault(false), y.faultKind);
            same("place", x.fault(true), y.faultPlace);
            if (y.faultKind > 0) {
                seenFaults[y.faultKind]++;
            } else {
                goodTexts++;
            }
            isIn();
        }

        /** All tuples if there are few, else some of them, and the first number that is none. */
        void isIn() {
            int size = y.workedArity == 0 ? 0 : y.size(y.workedArity);
            same("isIn " + size, x.isIn(size), y.isIn(size));
            for (int i = 0; i < Math.min(size, 27); i++) {
                int tuple = size <= 27 ? i : random.nextInt(size);
                same("isIn " + tuple, x.isIn(tuple), y.isIn(tuple));
            }
        }

        void has() {
            for (int i = 0; i < 25; i++) {
                int relation = random.nextInt(y.names.size() + 1);
                int top = relation < y.names.size() ? y.size(y.arities.get(relation)) : 0;
                int tuple = random.nextInt(top + 1);
                same("has " + relation + " " + tuple, call(() -> x.has(relation, tuple) ? 1 : 0),
                    call(() -> y.has(relation, tuple) ? 1 : 0));
            }
        }

        void core() {
            same("core", call(() -> x.core()), call(() -> y.core()));
            tolds();
        }

        void tolds() {
            for (int i = 0; i < 17; i++) {
                int fact = i;
                same("isInCore " + i, call(() -> x.isInCore(fact) ? 1 : 0), call(() -> y.isInCore(fact) ? 1 : 0));
            }
            for (int i = 0; i < 8; i++) {
                same("told " + i, x.told(i), y.told(i));
            }
        }
    }

    private interface Call {
        int run();
    }

    private static Object call(Call call) {
        try {
            return call.run();
        } catch (IndexOutOfBoundsException | IllegalArgumentException | IllegalStateException
                | UnsupportedOperationException e) {
            return e.getClass().getSimpleName();
        }
    }

    // ---- the texts

    private static final class Texts {
        static final String[] NAMES = {"a", "b", "c", "rel", "edge", "ab", "wxyzab", "f"};
        static final String[] TOKENS = {"all", "some", "no", "lone", "one", "not", "and", "or", "implies", "iff", "in",
            "none", "univ", "iden", "true", "false", "->", "++", "<:", ":>", "+", "-", "&", ".", "~", "^", "*", "#", "=",
            "<", ">", "(", ")", "[", "]", "{", "}", ":", "|", "1", "02", "999", "1000", "x", "y", "a", "b", "rel", "abcdefg",
            "A", "$", "!", "\u00ff", "%", "impliess"};
        final Random random;
        final Slow y;
        final List<String> bound = new ArrayList<>();
        final List<String> tokens = new ArrayList<>();

        Texts(Random random, Slow y) {
            this.random = random;
            this.y = y;
        }

        String next(boolean isFormula) {
            tokens.clear();
            bound.clear();
            if (random.nextInt(40) == 0) {
                longOne(isFormula);
            } else if (random.nextInt(20) == 0) {
                soup();
            } else if (isFormula && random.nextInt(3) == 0) {
                nested(1);
            } else if (isFormula) {
                formula(random.nextInt(5) + 1);
            } else {
                expression(random.nextInt(5) + 1, random.nextInt(3) + 1);
            }
            if (random.nextInt(4) == 0) {
                spoil();
            }
            StringBuilder text = new StringBuilder();
            for (String token : tokens) {
                boolean isWord = Character.isLetterOrDigit(token.charAt(0)) || token.charAt(0) > 127;
                boolean wasWord = text.length() > 0 && Character.isLetterOrDigit(text.charAt(text.length() - 1));
                if (isWord && wasWord || random.nextInt(3) == 0) {
                    text.append((char) (random.nextInt(8) == 0 ? random.nextInt(33) : 32));
                }
                text.append(token);
            }
            return text.length() > 600 ? text.substring(0, 600) : text.toString();
        }

        void add(String... more) {
            for (String token : more) {
                tokens.add(token);
            }
        }

        void spoil() {
            int times = random.nextInt(2) + 1;
            for (int i = 0; i < times; i++) {
                int at = random.nextInt(tokens.size() + 1);
                String token = TOKENS[random.nextInt(TOKENS.length)];
                int how = random.nextInt(4);
                if (how == 0 || at == tokens.size()) {
                    tokens.add(at, token);
                } else if (how == 1) {
                    tokens.remove(at);
                } else if (how == 2) {
                    tokens.set(at, token);
                } else {
                    tokens.subList(at, tokens.size()).clear();
                }
            }
        }

        /** Tokens without sense, mostly without those that are none. */
        void soup() {
            int many = random.nextInt(10);
            int few = random.nextInt(10) == 0 ? TOKENS.length : TOKENS.length - 8;
            for (int i = 0; i < many; i++) {
                add(TOKENS[random.nextInt(few)]);
            }
        }

        /** Near the limits of 200 tokens and 20 open things. */
        void longOne(boolean isFormula) {
            int kind = random.nextInt(6);
            if (!isFormula) {
                repeat(random.nextInt(2) == 0 ? "~" : "(", 17 + random.nextInt(5));
                expression(1, 2);
            } else if (kind == 0) {
                repeat("not", 17 + random.nextInt(5));
                formula(1);
            } else if (kind == 1) {
                repeat("[", 17 + random.nextInt(5));
                formula(1);
            } else if (kind == 2) {
                int times = 19 + random.nextInt(3);
                for (int i = 0; i < times; i++) {
                    add(random.nextBoolean() ? "true" : "false", "implies");
                }
                formula(1);
            } else if (kind == 3) {
                int times = 97 + random.nextInt(4);
                for (int i = 0; i < times; i++) {
                    add(random.nextBoolean() ? "true" : "false", random.nextBoolean() ? "or" : "and");
                }
                formula(1);
            } else if (kind == 4) {
                int times = 18 + random.nextInt(4);
                for (int i = 0; i < times; i++) {
                    add("some", random.nextBoolean() ? "x" : "y", ":", "univ", "|");
                }
                add("true");
            } else {
                int times = 94 + random.nextInt(6);
                add("univ", "in", "univ");
                for (int i = 0; i < times; i++) {
                    add(random.nextBoolean() ? "+" : "&", "univ");
                }
            }
        }

        /** Quantifiers in quantifiers, where those further in use few of the names further out. */
        void nested(int worlds) {
            if (worlds * y.n > 130 || bound.size() > 5 || random.nextInt(8) == 0) {
                formula(random.nextInt(2) + 1);
                return;
            }
            int side = random.nextInt(4);
            if (side == 0) {
                comparison();
                add(new String[] {"and", "or", "implies", "iff"}[random.nextInt(4)]);
            }
            boolean isSet = random.nextInt(4) == 0;
            if (isSet) {
                add(random.nextBoolean() ? "some" : "no", "{");
            } else {
                add(new String[] {"all", "some", "no", "lone", "one"}[random.nextInt(5)]);
            }
            String name = String.valueOf((char) ('u' + bound.size()));
            add(name, ":");
            expression(random.nextInt(3) == 0 ? 1 : 0, 1);
            add("|");
            bound.add(name);
            nested(worlds * y.n);
            bound.remove(bound.size() - 1);
            if (isSet) {
                add("}");
            }
            if (side == 1) {
                add("and");
                comparison();
            }
        }

        void comparison() {
            int arity = random.nextInt(2) + 1;
            expression(1, arity);
            add(random.nextBoolean() ? "in" : "=");
            expression(1, arity);
        }

        void repeat(String token, int times) {
            for (int i = 0; i < times; i++) {
                add(token);
            }
        }

        void formula(int depth) {
            int kind = random.nextInt(depth <= 0 ? 5 : 12);
            int arity = random.nextInt(random.nextInt(20) == 0 ? 3 : 2) + 1;
            String[] quantities = {"some", "no", "lone", "one"};
            switch (kind) {
                case 0:
                    add(random.nextBoolean() ? "true" : "false");
                    break;
                case 1: case 2:
                    expression(depth, arity);
                    add(random.nextBoolean() ? "in" : "=");
                    expression(depth - 1, arity);
                    break;
                case 3:
                    add(quantities[random.nextInt(4)]);
                    expression(depth - 1, arity);
                    break;
                case 4:
                    add("#");
                    expression(depth - 1, arity);
                    add(new String[] {"=", "<", ">"}[random.nextInt(3)], String.valueOf(random.nextInt(random.nextInt(9) == 0 ? 999 : 6)));
                    break;
                case 5:
                    add("not");
                    formula(depth - 1);
                    break;
                case 6:
                    add("[");
                    formula(depth - 1);
                    add("]");
                    break;
                case 7: case 8:
                    formula(depth - 1);
                    add(new String[] {"and", "or", "implies", "iff"}[random.nextInt(4)]);
                    formula(depth - 1);
                    break;
                default:
                    add(random.nextInt(2) == 0 ? "all" : quantities[random.nextInt(4)]);
                    binder(depth);
                    break;
            }
        }

        void binder(int depth) {
            String name = random.nextInt(4) == 0 ? NAMES[random.nextInt(3)] : String.valueOf((char) ('u' + random.nextInt(5)));
            add(name, ":");
            if (random.nextInt(2) == 0) {
                add("univ");
            } else {
                expression(depth - 1, random.nextInt(30) == 0 ? 2 : 1);
            }
            add("|");
            bound.add(name);
            formula(depth - 1);
            bound.remove(bound.size() - 1);
        }

        void expression(int depth, int arity) {
            int kind = depth <= 0 ? 0 : random.nextInt(12);
            if (random.nextInt(60) == 0) {
                arity = random.nextInt(3) + 1;
            }
            switch (kind) {
                case 3:
                    expression(depth - 1, arity);
                    add(random.nextBoolean() ? "+" : "-");
                    expression(depth - 1, arity);
                    break;
                case 4:
                    expression(depth - 1, arity);
                    add("&");
                    expression(depth - 1, arity);
                    break;
                case 5:
                    joined(depth, arity);
                    break;
                case 6:
                    product(depth, arity);
                    break;
                case 7:
                    if (arity == 2) {
                        add(new String[] {"~", "^", "*"}[random.nextInt(3)]);
                        expression(random.nextInt(2), 2);
                    } else {
                        joined(depth, arity);
                    }
                    break;
                case 8:
                    add("(");
                    expression(depth - 1, arity);
                    add(")");
                    break;
                case 9:
                    restricted(depth, arity);
                    break;
                case 10:
                    if (arity == 1) {
                        add("{");
                        binder(depth);
                        add("}");
                    } else {
                        leaf(arity);
                    }
                    break;
                default:
                    leaf(arity);
                    break;
            }
        }

        void joined(int depth, int arity) {
            int left = Math.min(3, random.nextInt(arity + 1) + 1);
            expression(depth - 1, left);
            add(".");
            expression(depth - 1, Math.max(1, Math.min(3, arity + 2 - left)));
        }

        void product(int depth, int arity) {
            if (arity == 1) {
                leaf(arity);
                return;
            }
            int left = arity == 2 ? 1 : random.nextInt(2) + 1;
            expression(depth - 1, left);
            add("->");
            expression(depth - 1, arity - left);
        }

        void restricted(int depth, int arity) {
            int kind = random.nextInt(3);
            expression(depth - 1, kind == 0 ? 1 : arity);
            add(kind == 0 ? "<:" : kind == 1 ? ":>" : arity == 2 ? "++" : "&");
            expression(depth - 1, kind == 1 ? 1 : arity);
        }

        void leaf(int arity) {
            List<String> fitting = new ArrayList<>();
            for (int i = 0; i < y.names.size(); i++) {
                String text = Slow.text(y.names.get(i));
                if (y.arities.get(i) == arity && !bound.contains(text)) {
                    fitting.add(text);
                    fitting.add(text);
                }
            }
            if (arity == 1) {
                fitting.addAll(bound);
                fitting.addAll(bound);
                fitting.add("univ");
                fitting.add(random.nextInt(3) == 0 ? "none" : "univ");
            } else if (arity == 2) {
                fitting.add("iden");
            }
            if (!fitting.isEmpty() && random.nextInt(60) != 0) {
                add(fitting.get(random.nextInt(fitting.size())));
            } else if (arity == 3) {
                add("iden", "->", "univ");
            } else {
                add(NAMES[random.nextInt(NAMES.length)]);
            }
        }
    }

    // ---- the slow finder

    private static final class Refused extends Exception {
        private static final long serialVersionUID = 1L;
        final int kind;
        final int place;

        Refused(int kind, int place) {
            this.kind = kind;
            this.place = place;
        }
    }

    /** A part of a text: how it is made, its parts, and the arity of what it is (0 for a formula). */
    private static final class Node {
        final String op;
        final int arity;
        final Node left;
        final Node right;
        String name;
        int number;

        Node(String op, int arity, Node left, Node right) {
            this.op = op;
            this.arity = arity;
            this.left = left;
            this.right = right;
        }
    }

    private static final class Slow {
        static final String KEYWORDS = " all some no lone one not and or implies iff in none univ iden true false ";
        final int n;
        final List<Long> names = new ArrayList<>();
        final List<Integer> arities = new ArrayList<>();
        final List<int[]> states = new ArrayList<>();
        final List<Node> facts = new ArrayList<>();
        final List<Boolean> inCore = new ArrayList<>();
        Node assertion;
        int present = -1;
        String tape = "";
        int faultKind = 0;
        int faultPlace = 0;
        boolean[] worked;
        int workedArity;

        Slow(int n) {
            this.n = n;
        }

        static long name(String text) {
            long word = 0;
            for (char c : text.toCharArray()) {
                word = word << 8 | c;
            }
            return word;
        }

        static String text(long name) {
            return name == 0 ? "" : text(name >>> 8) + (char) (name & 255);
        }

        int size(int arity) {
            return arity == 0 ? 1 : n * size(arity - 1);
        }

        int relation(long name, int arity) {
            if (names.contains(name) || arity < 1 || arity > 3) {
                throw new IllegalArgumentException();
            }
            if (names.size() == 8) {
                throw new UnsupportedOperationException();
            }
            names.add(name);
            arities.add(arity);
            states.add(new int[size(arity)]);
            present = -1;
            return names.size() - 1;
        }

        void tupleOf(int r, int t) {
            if (r < 0 || r >= names.size() || t < 0 || t >= size(arities.get(r))) {
                throw new IndexOutOfBoundsException();
            }
        }

        int frees() {
            int total = 0;
            for (int[] row : states) {
                for (int state : row) {
                    total += state == 1 ? 1 : 0;
                }
            }
            return total;
        }

        int bound(int r, int t, int how) {
            tupleOf(r, t);
            if (how < 0 || how > 2) {
                throw new IllegalArgumentException();
            }
            int before = states.get(r)[t];
            states.get(r)[t] = how;
            if (frees() > 12) {
                states.get(r)[t] = before;
                throw new UnsupportedOperationException();
            }
            present = -1;
            return before;
        }

        /** What the relations are in an assignment. */
        List<boolean[]> world(int assignment) {
            List<boolean[]> world = new ArrayList<>();
            int bit = frees();
            for (int[] row : states) {
                boolean[] tuples = new boolean[row.length];
                for (int t = 0; t < row.length; t++) {
                    if (row[t] == 1) {
                        bit--;
                        tuples[t] = (assignment >> bit & 1) == 1;
                    } else {
                        tuples[t] = row[t] == 2;
                    }
                }
                world.add(tuples);
            }
            return world;
        }

        Node readText(boolean isFormula) {
            String text = tape;
            tape = "";
            try {
                Node whole = new Reader(this, text).whole(isFormula);
                faultKind = 0;
                faultPlace = -1;
                return whole;
            } catch (Refused e) {
                faultKind = e.kind;
                faultPlace = e.place;
                return null;
            }
        }

        int fact() {
            if (facts.size() == 16) {
                tape = "";
                throw new UnsupportedOperationException();
            }
            Node node = readText(true);
            if (node == null) {
                return -1 - faultPlace;
            }
            facts.add(node);
            inCore.add(false);
            present = -1;
            return facts.size() - 1;
        }

        int back() {
            if (facts.isEmpty()) {
                throw new IllegalStateException();
            }
            facts.remove(facts.size() - 1);
            inCore.remove(inCore.size() - 1);
            present = -1;
            return facts.size();
        }

        int claim() {
            Node node = readText(true);
            if (node == null) {
                return -1 - faultPlace;
            }
            assertion = node;
            present = -1;
            return 0;
        }

        boolean isInstance(int assignment, List<Node> of) {
            List<boolean[]> world = world(assignment);
            for (Node node : of) {
                if (!new Worker(this, world).isTrue(node, new HashMap<>())) {
                    return false;
                }
            }
            return true;
        }

        int least(int from, List<Node> of, Node not) {
            for (int a = from; a < 1 << frees(); a++) {
                if (isInstance(a, of) && (not == null || !new Worker(this, world(a)).isTrue(not, new HashMap<>()))) {
                    return a;
                }
            }
            return -1;
        }

        int solve() {
            present = least(0, facts, null);
            return present < 0 ? 0 : 1;
        }

        int next() {
            if (present < 0) {
                throw new IllegalStateException();
            }
            present = least(present + 1, facts, null);
            return present < 0 ? 0 : 1;
        }

        int check() {
            if (assertion == null) {
                throw new IllegalStateException();
            }
            present = least(0, facts, assertion);
            return present < 0 ? 0 : 1;
        }

        boolean has(int r, int t) {
            tupleOf(r, t);
            if (present < 0) {
                throw new IllegalStateException();
            }
            return world(present).get(r)[t];
        }

        List<Integer> instances() {
            List<Integer> found = new ArrayList<>();
            for (int a = 0; a < 1 << frees(); a++) {
                if (isInstance(a, facts)) {
                    found.add(a);
                }
            }
            return found;
        }

        int count() {
            return instances().size();
        }

        void renamings(List<Integer> begun, List<int[]> all) {
            if (begun.size() == n) {
                int[] row = new int[n];
                for (int i = 0; i < n; i++) {
                    row[i] = begun.get(i);
                }
                all.add(row);
            }
            for (int i = 0; i < n; i++) {
                if (!begun.contains(i)) {
                    begun.add(i);
                    renamings(begun, all);
                    begun.remove(begun.size() - 1);
                }
            }
        }

        int renamed(int[] renaming, int tuple, int arity) {
            if (arity == 0) {
                return 0;
            }
            return renamed(renaming, tuple / n, arity - 1) * n + renaming[tuple % n];
        }

        List<int[]> fairOnes() {
            List<int[]> all = new ArrayList<>();
            renamings(new ArrayList<>(), all);
            List<int[]> fair = new ArrayList<>();
            for (int[] renaming : all) {
                boolean isFair = true;
                for (int r = 0; r < states.size(); r++) {
                    for (int t = 0; t < states.get(r).length; t++) {
                        isFair &= states.get(r)[t] == states.get(r)[renamed(renaming, t, arities.get(r))];
                    }
                }
                if (isFair) {
                    fair.add(renaming);
                }
            }
            return fair;
        }

        int fair() {
            return fairOnes().size();
        }

        /** The number of the assignment that a renaming makes of one. */
        int image(int[] renaming, int assignment) {
            List<boolean[]> world = world(assignment);
            int image = 0;
            for (int r = 0; r < states.size(); r++) {
                boolean[] tuples = new boolean[world.get(r).length];
                for (int t = 0; t < tuples.length; t++) {
                    tuples[renamed(renaming, t, arities.get(r))] = world.get(r)[t];
                }
                for (int t = 0; t < tuples.length; t++) {
                    if (states.get(r)[t] == 1) {
                        image = image * 2 + (tuples[t] ? 1 : 0);
                    }
                }
            }
            return image;
        }

        int unlike() {
            List<int[]> fair = fairOnes();
            int total = 0;
            for (int a : instances()) {
                boolean isLeast = true;
                for (int[] renaming : fair) {
                    if (isLeast && image(renaming, a) < a) {
                        isLeast = false;
                    }
                }
                total += isLeast ? 1 : 0;
            }
            return total;
        }

        int core() {
            if (least(0, facts, null) >= 0) {
                throw new IllegalStateException();
            }
            List<Node> left = new ArrayList<>(facts);
            for (int i = 0; i < facts.size(); i++) {
                int at = left.size() - (facts.size() - i);
                List<Node> without = new ArrayList<>(left);
                without.remove(at);
                inCore.set(i, least(0, without, null) >= 0);
                if (!inCore.get(i)) {
                    left = without;
                }
            }
            return left.size();
        }

        boolean isInCore(int fact) {
            if (fact < 0 || fact >= facts.size()) {
                throw new IndexOutOfBoundsException();
            }
            return inCore.get(fact);
        }

        int value() {
            if (present < 0) {
                tape = "";
                throw new IllegalStateException();
            }
            Node node = readText(false);
            if (node == null) {
                return -1 - faultPlace;
            }
            worked = new Worker(this, world(present)).tuples(node, new HashMap<>());
            workedArity = node.arity;
            int total = 0;
            for (boolean is : worked) {
                total += is ? 1 : 0;
            }
            return total;
        }

        boolean isIn(int tuple) {
            return worked != null && tuple >= 0 && tuple < worked.length && worked[tuple];
        }

        int holds() {
            if (present < 0) {
                tape = "";
                throw new IllegalStateException();
            }
            Node node = readText(true);
            if (node == null) {
                return -1 - faultPlace;
            }
            return new Worker(this, world(present)).isTrue(node, new HashMap<>()) ? 1 : 0;
        }

        int told(int what) {
            int[] answers = {n, names.size(), frees(), facts.size(), assertion == null ? 0 : 1, present < 0 ? 0 : 1,
                tape.length(), workedArity};
            return answers[what];
        }
    }

    /** Reads a text by recursion, one method for each strength of binding. */
    private static final class Reader {
        static final String[] SIGNS = {"->", "++", "<:", ":>", "+", "-", "&", ".", "~", "^", "*", "#", "=", "<", ">", "(", ")",
            "[", "]", "{", "}", ":", "|"};
        static final String[][] LEVELS = {{"+", "-"}, {"&"}, {"->"}, {"++", "<:", ":>"}, {"."}};
        final Slow finder;
        final String text;
        final List<String> bound = new ArrayList<>();
        int at = 0;
        int tokens = 0;
        int open = 0;
        /** "" at the end. */
        String token;
        int place;

        Reader(Slow finder, String text) {
            this.finder = finder;
            this.text = text;
        }

        Node whole(boolean isFormula) throws Refused {
            advance();
            Node node = isFormula ? formula() : expression(0);
            if (!token.isEmpty()) {
                throw new Refused(7, place);
            }
            return node;
        }

        int skip(int from) {
            while (from < text.length() && text.charAt(from) <= 32) {
                from++;
            }
            return from;
        }

        String tokenAt(int from) {
            int to = from;
            while (to < text.length() && text.charAt(to) >= 'a' && text.charAt(to) <= 'z') {
                to++;
            }
            if (to > from) {
                return text.substring(from, to);
            }
            while (to < text.length() && text.charAt(to) >= '0' && text.charAt(to) <= '9') {
                to++;
            }
            if (to > from) {
                return text.substring(from, to);
            }
            for (String sign : SIGNS) {
                if (text.startsWith(sign, from)) {
                    return sign;
                }
            }
            return from < text.length() ? "?" : "";
        }

        static boolean isKeyword(String token) {
            return Slow.KEYWORDS.contains(" " + token + " ");
        }

        static boolean isName(String token) {
            return !token.isEmpty() && Character.isLetter(token.charAt(0)) && !isKeyword(token) && token.length() <= 6;
        }

        void advance() throws Refused {
            place = skip(at);
            token = tokenAt(place);
            at = place + token.length();
            if (token.isEmpty()) {
                return;
            }
            tokens++;
            boolean isLong = Character.isLetter(token.charAt(0)) && !isKeyword(token) && token.length() > 6;
            if (token.equals("?") || isLong || Character.isDigit(token.charAt(0)) && token.length() > 3) {
                throw new Refused(1, place);
            }
            if (tokens > 200) {
                throw new Refused(6, place);
            }
        }

        void open() throws Refused {
            if (open == 20) {
                throw new Refused(6, place);
            }
            open++;
            advance();
        }

        Refused misplaced() {
            return new Refused(token.isEmpty() ? 2 : 3, place);
        }

        void expect(String what) throws Refused {
            if (!token.equals(what)) {
                throw misplaced();
            }
            advance();
        }

        Node formula() throws Refused {
            Node left = implication();
            while (token.equals("iff")) {
                open();
                left = new Node("iff", 0, left, implication());
                open--;
            }
            return left;
        }

        Node implication() throws Refused {
            Node left = disjunction();
            if (token.equals("implies")) {
                open();
                left = new Node("implies", 0, left, implication());
                open--;
            }
            return left;
        }

        Node disjunction() throws Refused {
            Node left = conjunction();
            while (token.equals("or")) {
                open();
                left = new Node("or", 0, left, conjunction());
                open--;
            }
            return left;
        }

        Node conjunction() throws Refused {
            Node left = simple();
            while (token.equals("and")) {
                open();
                left = new Node("and", 0, left, simple());
                open--;
            }
            return left;
        }

        Node simple() throws Refused {
            Node node;
            switch (token) {
                case "not":
                    open();
                    node = new Node("not", 0, simple(), null);
                    open--;
                    return node;
                case "[":
                    open();
                    node = formula();
                    expect("]");
                    open--;
                    return node;
                case "true": case "false":
                    node = new Node(token, 0, null, null);
                    advance();
                    return node;
                case "all":
                    return binder(token);
                case "some": case "no": case "lone": case "one":
                    return isBinder() ? binder(token) : quantity();
                case "#":
                    return number();
                default:
                    return comparison();
            }
        }

        boolean isBinder() {
            int from = skip(at);
            String name = tokenAt(from);
            return isName(name) && tokenAt(skip(from + name.length())).equals(":");
        }

        Node quantity() throws Refused {
            String word = token;
            open();
            Node node = new Node(word + " E", 0, expression(0), null);
            open--;
            return node;
        }

        Node number() throws Refused {
            open();
            Node of = expression(0);
            if (!token.equals("=") && !token.equals("<") && !token.equals(">")) {
                throw misplaced();
            }
            Node node = new Node("#" + token, 0, of, null);
            advance();
            if (token.isEmpty() || !Character.isDigit(token.charAt(0))) {
                throw misplaced();
            }
            node.number = Integer.parseInt(token);
            advance();
            open--;
            return node;
        }

        Node binder(String word) throws Refused {
            int from = place;
            open();
            String name = token;
            if (!isName(name)) {
                throw misplaced();
            }
            advance();
            expect(":");
            Node of = expression(0);
            if (of.arity != 1) {
                throw new Refused(5, from);
            }
            expect("|");
            bound.add(name);
            Node body = formula();
            bound.remove(bound.size() - 1);
            Node node = new Node(word, word.equals("{") ? 1 : 0, of, body);
            node.name = name;
            if (word.equals("{")) {
                expect("}");
            }
            open--;
            return node;
        }

        Node comparison() throws Refused {
            Node left = expression(0);
            if (!token.equals("in") && !token.equals("=")) {
                throw misplaced();
            }
            String sign = token;
            int from = place;
            open();
            Node right = expression(0);
            open--;
            if (left.arity != right.arity) {
                throw new Refused(5, from);
            }
            return new Node(sign, 0, left, right);
        }

        Node expression(int level) throws Refused {
            if (level == LEVELS.length) {
                return unary();
            }
            Node left = expression(level + 1);
            while (List.of(LEVELS[level]).contains(token)) {
                String sign = token;
                int from = place;
                open();
                Node right = expression(level + 1);
                open--;
                int arity = arity(sign, left.arity, right.arity);
                if (arity < 0) {
                    throw new Refused(5, from);
                }
                left = new Node(sign, arity, left, right);
            }
            return left;
        }

        static int arity(String sign, int left, int right) {
            switch (sign) {
                case "->": return left + right > 3 ? -1 : left + right;
                case "++": return left == 2 && right == 2 ? 2 : -1;
                case "<:": return left == 1 ? right : -1;
                case ":>": return right == 1 ? left : -1;
                case ".": return left + right == 2 || left + right == 6 ? -1 : left + right - 2;
                default: return left == right ? left : -1;
            }
        }

        Node unary() throws Refused {
            if (token.equals("~") || token.equals("^") || token.equals("*")) {
                String sign = token;
                int from = place;
                open();
                Node of = unary();
                open--;
                if (of.arity != 2) {
                    throw new Refused(5, from);
                }
                return new Node(sign, 2, of, null);
            }
            if (token.equals("(")) {
                open();
                Node node = expression(0);
                expect(")");
                open--;
                return node;
            }
            return token.equals("{") ? binder("{") : leaf();
        }

        Node leaf() throws Refused {
            Node node;
            if (token.equals("none") || token.equals("univ") || token.equals("iden")) {
                node = new Node(token, token.equals("iden") ? 2 : 1, null, null);
            } else if (!isName(token)) {
                throw misplaced();
            } else if (bound.contains(token)) {
                node = new Node("variable", 1, null, null);
                node.name = token;
            } else {
                int relation = finder.names.indexOf(Slow.name(token));
                if (relation < 0) {
                    throw new Refused(4, place);
                }
                node = new Node("relation", finder.arities.get(relation), null, null);
                node.number = relation;
            }
            advance();
            return node;
        }
    }

    /** Works out nodes in one assignment. */
    private static final class Worker {
        final Slow finder;
        final List<boolean[]> world;
        final int n;

        Worker(Slow finder, List<boolean[]> world) {
            this.finder = finder;
            this.world = world;
            n = finder.n;
        }

        static int number(boolean[] tuples) {
            int total = 0;
            for (boolean is : tuples) {
                total += is ? 1 : 0;
            }
            return total;
        }

        static boolean fits(String word, int number) {
            switch (word) {
                case "some": return number > 0;
                case "no": return number == 0;
                case "lone": return number < 2;
                default: return number == 1;
            }
        }

        boolean isTrue(Node f, Map<String, Integer> atoms) {
            switch (f.op) {
                case "true": return true;
                case "false": return false;
                case "not": return !isTrue(f.left, atoms);
                case "and": return isTrue(f.left, atoms) && isTrue(f.right, atoms);
                case "or": return isTrue(f.left, atoms) || isTrue(f.right, atoms);
                case "implies": return !isTrue(f.left, atoms) || isTrue(f.right, atoms);
                case "iff": return isTrue(f.left, atoms) == isTrue(f.right, atoms);
                case "all": return number(sift(f, atoms)) == number(tuples(f.left, atoms));
                case "some": case "no": case "lone": case "one": return fits(f.op, number(sift(f, atoms)));
                case "#=": return number(tuples(f.left, atoms)) == f.number;
                case "#<": return number(tuples(f.left, atoms)) < f.number;
                case "#>": return number(tuples(f.left, atoms)) > f.number;
                case "in": case "=": return compare(f, atoms);
                default: return fits(f.op.substring(0, f.op.length() - 2), number(tuples(f.left, atoms)));
            }
        }

        boolean compare(Node f, Map<String, Integer> atoms) {
            boolean[] left = tuples(f.left, atoms);
            boolean[] right = tuples(f.right, atoms);
            for (int t = 0; t < left.length; t++) {
                if (left[t] && !right[t] || f.op.equals("=") && left[t] != right[t]) {
                    return false;
                }
            }
            return true;
        }

        boolean[] sift(Node node, Map<String, Integer> atoms) {
            boolean[] of = tuples(node.left, atoms);
            boolean[] sifted = new boolean[n];
            for (int a = 0; a < n; a++) {
                if (of[a]) {
                    Map<String, Integer> more = new HashMap<>(atoms);
                    more.put(node.name, a);
                    sifted[a] = isTrue(node.right, more);
                    if (sifted[a] && node.op.equals("some") || !sifted[a] && node.op.equals("all")) {
                        return sifted;
                    }
                }
            }
            return sifted;
        }

        boolean[] tuples(Node e, Map<String, Integer> atoms) {
            if (e.op.equals("relation")) {
                return world.get(e.number);
            }
            boolean[] made = new boolean[finder.size(e.arity)];
            switch (e.op) {
                case "variable":
                    made[atoms.get(e.name)] = true;
                    return made;
                case "none":
                    return made;
                case "univ":
                    java.util.Arrays.fill(made, true);
                    return made;
                case "iden":
                    for (int a = 0; a < n; a++) {
                        made[a * n + a] = true;
                    }
                    return made;
                case "{":
                    return sift(e, atoms);
                case "~": case "^": case "*":
                    return prefix(e.op, tuples(e.left, atoms));
                default:
                    boolean[] left = tuples(e.left, atoms);
                    boolean[] right = tuples(e.right, atoms);
                    for (int i = 0; i < left.length; i++) {
                        for (int j = 0; j < right.length; j++) {
                            int to = target(e, i, j);
                            if (to >= 0 && left[i] && right[j]) {
                                made[to] = true;
                            }
                        }
                    }
                    return e.op.equals("+") || e.op.equals("-") || e.op.equals("++") ? sum(e.op, left, right) : made;
            }
        }

        /** Which tuple tuples i and j make together; -1 for none. */
        int target(Node e, int i, int j) {
            int rightSize = finder.size(e.right.arity);
            int backs = rightSize / n;
            switch (e.op) {
                case "&": return i == j ? i : -1;
                case "->": return i * rightSize + j;
                case "<:": return j / backs == i ? j : -1;
                case ":>": return i % n == j ? i : -1;
                case ".": return i % n == j / backs ? i / n * backs + j % backs : -1;
                default: return -1;
            }
        }

        boolean[] sum(String op, boolean[] left, boolean[] right) {
            boolean[] made = new boolean[left.length];
            for (int t = 0; t < made.length; t++) {
                boolean isBegun = false;
                for (int u = 0; op.equals("++") && u < made.length; u++) {
                    isBegun |= u / n == t / n && right[u];
                }
                made[t] = op.equals("-") ? left[t] && !right[t] : right[t] || left[t] && !isBegun;
            }
            return made;
        }

        boolean[] prefix(String op, boolean[] of) {
            boolean[] made = new boolean[of.length];
            for (int a = 0; a < n; a++) {
                for (int b = 0; b < n; b++) {
                    if (op.equals("~")) {
                        made[b * n + a] = of[a * n + b];
                    } else {
                        made[a * n + b] = op.equals("*") && a == b || reaches(of, a, b, n);
                    }
                }
            }
            return made;
        }

        boolean reaches(boolean[] of, int a, int b, int steps) {
            if (of[a * n + b]) {
                return true;
            }
            for (int c = 0; c < n && steps > 0; c++) {
                if (of[a * n + c] && reaches(of, c, b, steps - 1)) {
                    return true;
                }
            }
            return false;
        }
    }
}
