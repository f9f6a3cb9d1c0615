import java.nio.charset.StandardCharsets;
import java.util.ArrayList;
import java.util.List;

/**
 * A RelationFinder whose calls are counted: what an object answers after its 512th call is free, so
 * that no test may ask for more. Texts are fed whole.
 */
final class Finder {
    static final int MOST_CALLS = 512;

    private final RelationFinder x;
    private final int atoms;
    private final List<Integer> arities = new ArrayList<>();
    private int calls = 0;

    Finder(int atoms) {
        x = new RelationFinder(atoms);
        this.atoms = Math.max(1, Math.min(5, atoms));
    }

    private RelationFinder counted() {
        calls++;
        if (calls > MOST_CALLS) {
            throw new AssertionError("a test asks an object more than 512 times");
        }
        return x;
    }

    int calls() {
        return calls;
    }

    // ---- the calls of the face

    int feed(long bytes, int n) {
        return counted().feed(bytes, n);
    }

    int fault(boolean place) {
        return counted().fault(place);
    }

    int relation(long name, int arity) {
        int number = counted().relation(name, arity);
        arities.add(arity);
        return number;
    }

    int bound(int relation, int tuple, int how) {
        return counted().bound(relation, tuple, how);
    }

    int fact() {
        return counted().fact();
    }

    int back() {
        return counted().back();
    }

    int claim() {
        return counted().claim();
    }

    int solve() {
        return counted().solve();
    }

    int next() {
        return counted().next();
    }

    int check() {
        return counted().check();
    }

    boolean has(int relation, int tuple) {
        return counted().has(relation, tuple);
    }

    int count() {
        return counted().count();
    }

    int unlike() {
        return counted().unlike();
    }

    int fair() {
        return counted().fair();
    }

    int core() {
        return counted().core();
    }

    boolean isInCore(int fact) {
        return counted().isInCore(fact);
    }

    int value() {
        return counted().value();
    }

    boolean isIn(int tuple) {
        return counted().isIn(tuple);
    }

    int holds() {
        return counted().holds();
    }

    int told(int what) {
        return counted().told(what);
    }

    // ---- texts

    static long name(String text) {
        long word = 0;
        for (byte b : text.getBytes(StandardCharsets.ISO_8859_1)) {
            word = word << 8 | b & 255;
        }
        return word;
    }

    int relation(String name, int arity) {
        return relation(name(name), arity);
    }

    void put(String text) {
        for (int i = 0; i < text.length(); i += 8) {
            String piece = text.substring(i, Math.min(text.length(), i + 8));
            feed(name(piece), piece.length());
        }
    }

    int fact(String text) {
        put(text);
        return fact();
    }

    int claim(String text) {
        put(text);
        return claim();
    }

    int value(String text) {
        put(text);
        return value();
    }

    int holds(String text) {
        put(text);
        return holds();
    }

    void boundAll(int relation, int from, int to, int how) {
        for (int i = from; i < to; i++) {
            bound(relation, i, how);
        }
    }

    // ---- all that can be asked without a change

    int sizeOf(int arity) {
        int size = 1;
        for (int i = 0; i < arity; i++) {
            size *= atoms;
        }
        return size;
    }

    /** Tuples of THE PRESENT ONE, relation by relation, as rows of 0 and 1; "none" without one. */
    String present() {
        StringBuilder text = new StringBuilder();
        for (int r = 0; r < arities.size(); r++) {
            text.append(r == 0 ? "" : " ");
            for (int t = 0; t < sizeOf(arities.get(r)); t++) {
                int relation = r;
                int tuple = t;
                String answer = Checks.outcome(() -> has(relation, tuple));
                if (answer.equals(Checks.STATE)) {
                    return "none";
                }
                text.append(answer);
            }
        }
        return text.toString();
    }

    /** Tuples of what value() worked out last, up to the highest number that a tuple may have, and one more. */
    String worked() {
        StringBuilder text = new StringBuilder();
        for (int t = 0; t <= sizeOf(3); t++) {
            text.append(isIn(t) ? 1 : 0);
        }
        return text.toString();
    }

    String core(int facts) {
        StringBuilder text = new StringBuilder();
        for (int i = 0; i < facts; i++) {
            text.append(isInCore(i) ? 1 : 0);
        }
        return text.toString();
    }

    String state() {
        StringBuilder text = new StringBuilder("told");
        for (int what = 0; what <= 7; what++) {
            text.append(' ').append(told(what));
        }
        text.append(", fault ").append(fault(false)).append(" at ").append(fault(true));
        text.append(", present ").append(present());
        text.append(", worked ").append(worked());
        text.append(", core ").append(core(told(3)));
        text.append(", count ").append(count()).append(", unlike ").append(unlike());
        text.append(", fair ").append(fair());
        return text.toString();
    }
}
