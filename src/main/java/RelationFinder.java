import java.util.Arrays;

/**
 * Relations over a few atoms, with bounds, and what must hold of them: finds the assignments for
 * which all facts are true, and works out values in what was found.
 *
 * <p>Assignments are numbered in their order: the first FREE tuple is the highest bit. Everything is
 * worked out for 64 of them at once (a block): a long tells of one tuple, or of one formula, in
 * which assignments of the block it is there, or true.
 */
public final class RelationFinder {
    public static final int NONE = -1;

    private static final int MAX_BYTES = 600;
    private static final int MAX_TOKENS = 200;
    private static final int MAX_OPEN = 20;
    private static final int MAX_LETTERS = 6;
    private static final int MAX_DIGITS = 3;
    private static final int MAX_FACTS = 16;
    private static final int MAX_RELATIONS = 8;
    private static final int MAX_ARITY = 3;
    private static final int MAX_ATOMS = 5;
    private static final int MAX_TUPLES = 125;
    private static final int MAX_FREE = 12;
    private static final int MAX_RENAMINGS = 120;
    private static final int BLOCK_BITS = 6;
    private static final int BLOCK = 64;
    private static final int MAX_BLOCKS = 64;
    /** Each open thing keeps one value at most, and one more is being worked out. */
    private static final int MAX_VALUES = MAX_OPEN + 2;

    private static final int FREE = 1;
    private static final int IN_ALWAYS = 2;

    /** Where the assertion stands among the formulas: behind all facts. */
    private static final int ASSERTION = MAX_FACTS;

    private static final int WRONG_TOKEN = 1;
    private static final int ENDS_EARLY = 2;
    private static final int MISPLACED = 3;
    private static final int UNKNOWN_NAME = 4;
    private static final int WRONG_ARITY = 5;
    private static final int TOO_MUCH = 6;
    private static final int BEHIND_ALL = 7;

    // Kinds of tokens; an operator's kind is its instruction, too.
    private static final int END = 0;
    private static final int WRONG = 1;
    private static final int NAME = 2;
    private static final int NUMBER = 3;
    // These are in the order of KEYWORDS.
    private static final int ALL = 4;
    private static final int SOME = 5;
    private static final int NO = 6;
    private static final int LONE = 7;
    private static final int ONE = 8;
    private static final int NOT = 9;
    private static final int AND = 10;
    private static final int OR = 11;
    private static final int IMPLIES = 12;
    private static final int IFF = 13;
    private static final int IN = 14;
    private static final int NOTHING = 15;
    private static final int UNIV = 16;
    private static final int IDEN = 17;
    private static final int TRUE = 18;
    private static final int FALSE = 19;
    // These are in the order of PAIRS.
    private static final int ARROW = 20;
    private static final int OVERRIDE = 21;
    private static final int FIRSTS = 22;
    private static final int LASTS = 23;
    // These are in the order of SIGNS.
    private static final int PLUS = 24;
    private static final int MINUS = 25;
    private static final int MEET = 26;
    private static final int DOT = 27;
    private static final int TILDE = 28;
    private static final int HAT = 29;
    private static final int STAR = 30;
    private static final int HASH = 31;
    private static final int EQUAL = 32;
    private static final int LESS = 33;
    private static final int MORE = 34;
    private static final int ROUND = 35;
    private static final int ROUND_END = 36;
    private static final int SQUARE = 37;
    private static final int SQUARE_END = 38;
    private static final int CURLY = 39;
    private static final int CURLY_END = 40;
    private static final int COLON = 41;
    private static final int BAR = 42;
    // Instructions that are no tokens.
    private static final int VARIABLE = 43;
    private static final int RELATION = 44;
    private static final int BIND = 45;

    /** all some no lone one not and or implies iff in none univ iden true false, as names are told. */
    private static final long[] KEYWORDS = {
        0x616c6cL, 0x736f6d65L, 0x6e6fL, 0x6c6f6e65L, 0x6f6e65L, 0x6e6f74L, 0x616e64L, 0x6f72L,
        0x696d706c696573L, 0x696666L, 0x696eL, 0x6e6f6e65L, 0x756e6976L, 0x6964656eL, 0x74727565L,
        0x66616c7365L
    };
    /** The longest keyword has more letters than a name may have. */
    private static final int MAX_KEYWORD = 7;
    private static final String PAIRS = "->++<::>";
    private static final String SIGNS = "+-&.~^*#=<>()[]{}:|";

    // How strongly operators bind; what begins or ends something else has no strength.
    private static final int NO_STRENGTH = 0;
    private static final int AND_STRENGTH = 4;
    private static final int COMPARE_STRENGTH = 6;

    /** What fitting() answers for operands that an operator can't have; a formula has arity 0. */
    private static final int MISFIT = -1;

    /** Bit b of word p is bit p of the number b: which assignments of a block have a late FREE tuple. */
    private static final long[] STRIPES = {
        0xAAAAAAAAAAAAAAAAL, 0xCCCCCCCCCCCCCCCCL, 0xF0F0F0F0F0F0F0F0L, 0xFF00FF00FF00FF00L,
        0xFFFF0000FFFF0000L, 0xFFFFFFFF00000000L
    };

    private final World world;
    private final Tape tape;
    private final Parser parser;
    private final Machine machine;
    private final Renamings renamings;
    /** The facts, and the assertion behind them. */
    private final Code[] formulas;
    /** What is read goes here first, so that a refused text changes nothing. */
    private Code spare;
    /** Of each formula and block in which of its assignments the formula is true. */
    private final long[] truths;
    /** Of each formula which blocks of its truths were worked out since it or a bound changed. */
    private final long[] known;
    private final long[] seen;
    private int facts;
    private boolean asserted;
    private int present;
    private int coreFacts;
    private int latestFault;
    private int latestPlace;
    private final boolean[] worked;
    private int workedArity;

    public RelationFinder(int atoms) {
        world = new World(Math.max(1, Math.min(MAX_ATOMS, atoms)));
        tape = new Tape();
        parser = new Parser(tape, world);
        machine = new Machine(world);
        renamings = new Renamings(world);
        formulas = new Code[MAX_FACTS + 1];
        for (int i = 0; i < formulas.length; i++) {
            formulas[i] = new Code();
        }
        spare = new Code();
        truths = new long[(MAX_FACTS + 1) * MAX_BLOCKS];
        known = new long[MAX_FACTS + 1];
        seen = new long[MAX_BLOCKS];
        present = NONE;
        worked = new boolean[MAX_TUPLES];
    }

    // ---- tape

    public int feed(long bytes, int n) throws IllegalArgumentException, UnsupportedOperationException {
        if (n < 1 || n > 8) {
            throw new IllegalArgumentException("1 to 8 bytes");
        }
        if (tape.length + n > MAX_BYTES) {
            throw new UnsupportedOperationException("the tape is full");
        }
        tape.append(bytes, n);
        return tape.length;
    }

    public int fault(boolean place) {
        return place ? latestPlace : latestFault;
    }

    // ---- relations

    public int relation(long name, int arity) throws IllegalArgumentException, UnsupportedOperationException {
        if (!isName(name) || world.numberOf(name) != NONE || arity < 1 || arity > MAX_ARITY) {
            throw new IllegalArgumentException("no new name, or no arity");
        }
        if (world.relations >= MAX_RELATIONS) {
            throw new UnsupportedOperationException("there are 8 relations");
        }
        present = NONE;
        return world.add(name, arity);
    }

    public int bound(int relation, int tuple, int how)
            throws IndexOutOfBoundsException, IllegalArgumentException, UnsupportedOperationException {
        if (!world.hasTuple(relation, tuple)) {
            throw new IndexOutOfBoundsException("no such tuple");
        }
        if (how < 0 || how > IN_ALWAYS) {
            throw new IllegalArgumentException("0, 1 or 2");
        }
        int key = relation * MAX_TUPLES + tuple;
        int before = world.states[key];
        if (how == FREE && before != FREE && world.frees >= MAX_FREE) {
            throw new UnsupportedOperationException("12 tuples are free");
        }
        present = NONE;
        if (before != how) {
            world.change(key, how);
            Arrays.fill(known, 0L);
            renamings.isFound = false;
        }
        return before;
    }

    // ---- formulas

    public int fact() throws UnsupportedOperationException {
        if (facts >= MAX_FACTS) {
            tape.clear();
            throw new UnsupportedOperationException("there are 16 facts");
        }
        int refusal = readText(true);
        if (refusal != 0) {
            return refusal;
        }
        keepFormula(facts);
        facts++;
        return facts - 1;
    }

    public int back() throws IllegalStateException {
        if (facts == 0) {
            throw new IllegalStateException("there is no fact");
        }
        facts--;
        coreFacts &= ~(1 << facts);
        present = NONE;
        return facts;
    }

    public int claim() {
        int refusal = readText(true);
        if (refusal == 0) {
            keepFormula(ASSERTION);
            asserted = true;
        }
        return refusal;
    }

    // ---- finding

    public int solve() {
        present = firstFrom(0, allFacts());
        return present == NONE ? 0 : 1;
    }

    public int next() throws IllegalStateException {
        if (present == NONE) {
            throw new IllegalStateException("there is no present one");
        }
        present = firstFrom(present + 1, allFacts());
        return present == NONE ? 0 : 1;
    }

    public int check() throws IllegalStateException {
        if (!asserted) {
            throw new IllegalStateException("there is no assertion");
        }
        present = firstFrom(0, allFacts() | 1 << ASSERTION);
        return present == NONE ? 0 : 1;
    }

    public boolean has(int relation, int tuple) throws IndexOutOfBoundsException, IllegalStateException {
        if (!world.hasTuple(relation, tuple)) {
            throw new IndexOutOfBoundsException("no such tuple");
        }
        if (present == NONE) {
            throw new IllegalStateException("there is no present one");
        }
        return world.contains(relation * MAX_TUPLES + tuple, present);
    }

    public int count() {
        int total = 0;
        for (int block = 0; block < world.blocks(); block++) {
            total += Long.bitCount(instances(allFacts(), block));
        }
        return total;
    }

    public int unlike() {
        renamings.find();
        Arrays.fill(seen, 0L);
        int total = 0;
        for (int block = 0; block < world.blocks(); block++) {
            long found = instances(allFacts(), block);
            for (int bit = 0; bit < BLOCK && found != 0; bit++) {
                if (((found & ~seen[block]) >>> bit & 1) != 0) {
                    total++;
                    renamings.markAlike(block * BLOCK + bit, seen);
                }
            }
        }
        return total;
    }

    public int fair() {
        renamings.find();
        return renamings.found;
    }

    public int core() throws IllegalStateException {
        int left = allFacts();
        if (firstFrom(0, left) != NONE) {
            throw new IllegalStateException("there is an instance");
        }
        for (int i = 0; i < facts; i++) {
            int without = left & ~(1 << i);
            if (firstFrom(0, without) == NONE) {
                left = without;
            }
        }
        coreFacts = left;
        return Integer.bitCount(left);
    }

    public boolean isInCore(int fact) throws IndexOutOfBoundsException {
        if (fact < 0 || fact >= facts) {
            throw new IndexOutOfBoundsException("no such fact");
        }
        return (coreFacts >>> fact & 1) != 0;
    }

    // ---- values

    public int value() throws IllegalStateException {
        if (present == NONE) {
            tape.clear();
            throw new IllegalStateException("there is no present one");
        }
        int refusal = readText(false);
        if (refusal != 0) {
            return refusal;
        }
        workInPresent();
        workedArity = machine.arities[0];
        int size = world.sizeOf(workedArity);
        int total = 0;
        for (int i = 0; i < MAX_TUPLES; i++) {
            worked[i] = i < size && isThere(machine.cells[i]);
            total += worked[i] ? 1 : 0;
        }
        return total;
    }

    public boolean isIn(int tuple) {
        return tuple >= 0 && tuple < MAX_TUPLES && worked[tuple];
    }

    public int holds() throws IllegalStateException {
        if (present == NONE) {
            tape.clear();
            throw new IllegalStateException("there is no present one");
        }
        int refusal = readText(true);
        if (refusal != 0) {
            return refusal;
        }
        workInPresent();
        return isThere(machine.cells[0]) ? 1 : 0;
    }

    public int told(int what) {
        switch (what) {
            case 0: return world.atoms;
            case 1: return world.relations;
            case 2: return world.frees;
            case 3: return facts;
            case 4: return asserted ? 1 : 0;
            case 5: return present == NONE ? 0 : 1;
            case 6: return tape.length;
            case 7: return workedArity;
            default: return NONE;
        }
    }

    // ---- what the calls share

    /** Uses up the tape; answers 0, or -1 less the place of the fault. */
    private int readText(boolean isFormula) {
        parser.read(spare, isFormula);
        tape.clear();
        latestFault = parser.refusal;
        latestPlace = parser.refusal == 0 ? NONE : parser.refusalPlace;
        return parser.refusal == 0 ? 0 : -1 - parser.refusalPlace;
    }

    private void keepFormula(int number) {
        Code old = formulas[number];
        formulas[number] = spare;
        spare = old;
        known[number] = 0;
        present = NONE;
    }

    private int allFacts() {
        return (1 << facts) - 1;
    }

    /** The least assignment, not below from, that instances() tells; NONE if there is none. */
    private int firstFrom(int from, int chosen) {
        for (int block = from / BLOCK; block < world.blocks(); block++) {
            long found = instances(chosen, block);
            for (int bit = 0; bit < BLOCK && found != 0; bit++) {
                int assignment = block * BLOCK + bit;
                if (assignment >= from && (found >>> bit & 1) != 0) {
                    return assignment;
                }
            }
        }
        return NONE;
    }

    /** Assignments of a block for which the chosen facts are true, and the assertion, if chosen, false. */
    private long instances(int chosen, int block) {
        long found = world.wholeBlock();
        for (int i = 0; i <= MAX_FACTS && found != 0; i++) {
            if ((chosen >>> i & 1) == 0) {
                continue;
            }
            int at = i * MAX_BLOCKS + block;
            if ((known[i] >>> block & 1) == 0) {
                machine.work(formulas[i], block, world.wholeBlock());
                truths[at] = machine.cells[0];
                known[i] |= 1L << block;
            }
            found &= i == ASSERTION ? ~truths[at] : truths[at];
        }
        return found;
    }

    private void workInPresent() {
        machine.work(spare, present / BLOCK, 1L << present % BLOCK);
    }

    private boolean isThere(long word) {
        return (word >>> present % BLOCK & 1) != 0;
    }

    /** Whether what is before it may tell all, so that what is behind it needn't be asked. */
    private static boolean isConnective(int kind) {
        return kind == AND || kind == OR || kind == IMPLIES;
    }

    private static boolean isLetter(int b) {
        return b >= 'a' && b <= 'z';
    }

    private static boolean isDigit(int b) {
        return b >= '0' && b <= '9';
    }

    /** NAME if it is no keyword. */
    private static int kindOfWord(long word) {
        for (int i = 0; i < KEYWORDS.length; i++) {
            if (KEYWORDS[i] == word) {
                return ALL + i;
            }
        }
        return NAME;
    }

    private static boolean isName(long word) {
        long rest = word;
        for (int i = 0; i < MAX_LETTERS && rest != 0; i++) {
            if (!isLetter((int) (rest & 255))) {
                return false;
            }
            rest >>>= 8;
        }
        return word != 0 && rest == 0 && kindOfWord(word) == NAME;
    }

    /** Atoms, relations and bounds, and the words of all tuples in one block of assignments. */
    private static final class World {
        final int atoms;
        /** How many tuples each arity has; a formula has arity 0 and one word. */
        final int[] sizes = new int[MAX_ARITY + 1];
        final long[] names = new long[MAX_RELATIONS];
        final int[] arities = new int[MAX_RELATIONS];
        int relations;
        // A tuple's key, its index here, is relation * MAX_TUPLES + tuple.
        final int[] states = new int[MAX_RELATIONS * MAX_TUPLES];
        final long[] words = new long[MAX_RELATIONS * MAX_TUPLES];
        /** The keys of the FREE tuples, in order. */
        final int[] free = new int[MAX_FREE];
        int frees;

        World(int atoms) {
            this.atoms = atoms;
            sizes[0] = 1;
            for (int i = 1; i <= MAX_ARITY; i++) {
                sizes[i] = sizes[i - 1] * atoms;
            }
        }

        int sizeOf(int arity) {
            return arity >= 0 && arity <= MAX_ARITY ? sizes[arity] : 0;
        }

        int numberOf(long name) {
            for (int i = 0; i < relations; i++) {
                if (names[i] == name) {
                    return i;
                }
            }
            return NONE;
        }

        int add(long name, int arity) {
            names[relations] = name;
            arities[relations] = arity;
            relations++;
            return relations - 1;
        }

        boolean hasTuple(int relation, int tuple) {
            return relation >= 0 && relation < relations && tuple >= 0 && tuple < sizeOf(arities[relation]);
        }

        void change(int key, int how) {
            if (states[key] == FREE) {
                dropFree(key);
            }
            if (how == FREE) {
                addFree(key);
            }
            states[key] = how;
            words[key] = how == IN_ALWAYS ? -1L : 0L;
        }

        private void addFree(int key) {
            int at = frees;
            for (; at > 0 && free[at - 1] > key; at--) {
                free[at] = free[at - 1];
            }
            free[at] = key;
            frees++;
        }

        private void dropFree(int key) {
            int kept = 0;
            for (int i = 0; i < frees; i++) {
                if (free[i] != key) {
                    free[kept] = free[i];
                    kept++;
                }
            }
            frees = kept;
        }

        int rankOf(int key) {
            for (int i = 0; i < frees; i++) {
                if (free[i] == key) {
                    return i;
                }
            }
            return NONE;
        }

        boolean contains(int key, int assignment) {
            int rank = rankOf(key);
            return rank == NONE ? states[key] == IN_ALWAYS : (assignment >>> frees - 1 - rank & 1) != 0;
        }

        int blocks() {
            return frees <= BLOCK_BITS ? 1 : 1 << frees - BLOCK_BITS;
        }

        /** The bits of a block that are assignments: with few FREE tuples there are less than 64. */
        long wholeBlock() {
            return frees >= BLOCK_BITS ? -1L : (1L << (1 << frees)) - 1;
        }

        void show(int block) {
            for (int i = 0; i < frees; i++) {
                int bit = frees - 1 - i;
                if (bit < BLOCK_BITS) {
                    words[free[i]] = STRIPES[bit];
                } else {
                    words[free[i]] = (block >>> bit - BLOCK_BITS & 1) != 0 ? -1L : 0L;
                }
            }
        }
    }

    /** The bytes that were fed, and the token of them that was read last. */
    private static final class Tape {
        final int[] bytes = new int[MAX_BYTES];
        int length;
        private int at;
        int tokens;
        int kind;
        int place;
        long name;
        int number;

        void append(long word, int n) {
            for (int i = n - 1; i >= 0 && length < MAX_BYTES; i--) {
                bytes[length] = (int) (word >>> 8 * i & 255);
                length++;
            }
        }

        void clear() {
            length = 0;
        }

        void rewind() {
            at = 0;
            tokens = 0;
        }

        void advance() {
            at = blanksEnd(at);
            place = at;
            if (at >= length) {
                kind = END;
                return;
            }
            tokens++;
            if (isLetter(bytes[at])) {
                readWord();
            } else if (isDigit(bytes[at])) {
                readNumber();
            } else {
                readSign();
            }
        }

        private int blanksEnd(int from) {
            int i = from;
            while (i < length && bytes[i] <= 32) {
                i++;
            }
            return i;
        }

        private int lettersEnd(int from) {
            int i = from;
            while (i < length && isLetter(bytes[i])) {
                i++;
            }
            return i;
        }

        private long wordBetween(int from, int to) {
            long word = 0;
            for (int i = from; i < to; i++) {
                word = word << 8 | bytes[i];
            }
            return word;
        }

        private void readWord() {
            at = lettersEnd(place);
            int letters = at - place;
            name = wordBetween(place, at);
            // The word of a longer row has lost its first letters, and might look like a keyword.
            kind = letters <= MAX_KEYWORD ? kindOfWord(name) : WRONG;
            if (kind == NAME && letters > MAX_LETTERS) {
                kind = WRONG;
            }
        }

        private void readNumber() {
            number = 0;
            while (at < length && isDigit(bytes[at])) {
                number = number * 10 + bytes[at] - '0';
                at++;
            }
            kind = at - place <= MAX_DIGITS ? NUMBER : WRONG;
        }

        private void readSign() {
            int first = bytes[at];
            int second = at + 1 < length ? bytes[at + 1] : 0;
            for (int i = 0; i + 1 < PAIRS.length(); i += 2) {
                if (PAIRS.charAt(i) == first && PAIRS.charAt(i + 1) == second) {
                    kind = ARROW + i / 2;
                    at += 2;
                    return;
                }
            }
            int found = SIGNS.indexOf((char) first);
            kind = found < 0 ? WRONG : PLUS + found;
            at++;
        }

        /** Whether NAME : comes; looks at bytes alone, since those tokens are not read yet. */
        boolean isBinderNext() {
            int from = blanksEnd(at);
            int to = lettersEnd(from);
            int letters = to - from;
            if (letters < 1 || letters > MAX_LETTERS || kindOfWord(wordBetween(from, to)) != NAME) {
                return false;
            }
            int i = blanksEnd(to);
            return i < length && bytes[i] == ':' && (i + 1 >= length || bytes[i + 1] != '>');
        }
    }

    /**
     * A text as instructions, operands before their operator; but BIND comes first, then its E up to
     * the middle, then its F up to the end; and and, or, implies have their second F behind them up
     * to the end, since it may be passed over.
     */
    private static final class Code {
        static final int MAX_MEMOS = 40;
        int length;
        final int[] ops = new int[MAX_TOKENS];
        /** A relation's number, the open thing that binds a variable, or the number after #. */
        final int[] args = new int[MAX_TOKENS];
        /** The word or sign that binds, or the sign before a number. */
        final int[] signs = new int[MAX_TOKENS];
        final int[] middles = new int[MAX_TOKENS];
        final int[] ends = new int[MAX_TOKENS];
        /** Of BIND: the variables from outside that it uses, as bits. */
        final int[] uses = new int[MAX_TOKENS];
        /** Of BIND: where its values are remembered, or NONE. */
        final int[] memos = new int[MAX_TOKENS];
        int memoCount;

        void clear() {
            length = 0;
            memoCount = 0;
        }

        /** Where the instruction stands; each token brings one at most, so there is room. */
        int add(int op, int arg, int sign) {
            if (length >= MAX_TOKENS) {
                return MAX_TOKENS - 1;
            }
            ops[length] = op;
            args[length] = arg;
            signs[length] = sign;
            middles[length] = length + 1;
            ends[length] = length + 1;
            uses[length] = 0;
            memos[length] = NONE;
            length++;
            return length - 1;
        }

        void endBinder(int at, int slot, int slotsAround) {
            ends[at] = length;
            for (int i = at + 1; i < length; i++) {
                if (ops[i] == VARIABLE && args[i] < slot) {
                    uses[at] |= 1 << args[i];
                }
            }
            // Its value returns only if a variable around it changes that it does not use.
            if (uses[at] != slotsAround && Integer.bitCount(uses[at]) <= 2 && memoCount < MAX_MEMOS) {
                memos[at] = memoCount;
                memoCount++;
            }
        }
    }

    /** Reads a text token by token, with a stack of what stands open. */
    private static final class Parser {
        // What may come next.
        private static final int AWAITS_OPERAND = 0;
        private static final int AWAITS_NAME = 1;
        private static final int AWAITS_COLON = 2;
        private static final int AWAITS_NUMBER = 3;
        private static final int AWAITS_MORE = 4;

        // What an open thing has behind it at the moment: Q and { have two parts.
        private static final int PLAIN = 0;
        private static final int DOMAIN = 1;
        private static final int BODY = 2;

        private final Tape tape;
        private final World world;
        private Code code;
        private boolean isWholeFormula;
        private int awaited;
        private boolean isDone;
        /** The arity of the operand that was read last; 0 for a formula. */
        private int operand;
        private int numberSign;
        private int opens;
        private final int[] openKinds = new int[MAX_OPEN];
        private final int[] openParts = new int[MAX_OPEN];
        private final int[] openPlaces = new int[MAX_OPEN];
        private final int[] openLefts = new int[MAX_OPEN];
        private final int[] openStarts = new int[MAX_OPEN];
        private final long[] openNames = new long[MAX_OPEN];
        /** The FAULT of the text, 0 for none. */
        int refusal;
        int refusalPlace;

        Parser(Tape tape, World world) {
            this.tape = tape;
            this.world = world;
        }

        void read(Code into, boolean isFormula) {
            code = into;
            code.clear();
            tape.rewind();
            isWholeFormula = isFormula;
            awaited = AWAITS_OPERAND;
            isDone = false;
            opens = 0;
            refusal = 0;
            for (int i = 0; i <= MAX_TOKENS && refusal == 0 && !isDone; i++) {
                tape.advance();
                if (tape.kind == WRONG) {
                    refuse(WRONG_TOKEN, tape.place);
                    return;
                }
                if (tape.tokens > MAX_TOKENS) {
                    refuse(TOO_MUCH, tape.place);
                    return;
                }
                switch (awaited) {
                    case AWAITS_OPERAND: takeOperand(tape.kind); break;
                    case AWAITS_NAME: takeBoundName(tape.kind); break;
                    case AWAITS_COLON: takeColon(tape.kind); break;
                    case AWAITS_NUMBER: takeNumber(tape.kind); break;
                    default: takeBehind(tape.kind); break;
                }
            }
        }

        private void refuse(int why, int place) {
            refusal = why;
            refusalPlace = place;
        }

        private void refuseToken() {
            refuse(tape.kind == END ? ENDS_EARLY : MISPLACED, tape.place);
        }

        private void takeOperand(int kind) {
            switch (kind) {
                case TILDE: case HAT: case STAR: case ROUND:
                    open(kind);
                    break;
                case CURLY:
                    openBinder(kind);
                    break;
                case NAME:
                    takeName();
                    break;
                case NOTHING: case UNIV:
                    addOperand(kind, 0, 1);
                    break;
                case IDEN:
                    addOperand(kind, 0, 2);
                    break;
                default:
                    if (awaitsFormula()) {
                        takeFormula(kind);
                    } else {
                        refuseToken();
                    }
                    break;
            }
        }

        private void takeFormula(int kind) {
            switch (kind) {
                case NOT: case SQUARE: case HASH:
                    open(kind);
                    break;
                case TRUE: case FALSE:
                    addOperand(kind, 0, 0);
                    break;
                case ALL:
                    openBinder(kind);
                    break;
                case SOME: case NO: case LONE: case ONE:
                    if (tape.isBinderNext()) {
                        openBinder(kind);
                    } else {
                        open(kind);
                    }
                    break;
                default:
                    refuseToken();
                    break;
            }
        }

        private void addOperand(int op, int arg, int arity) {
            code.add(op, arg, 0);
            endOperand(arity);
        }

        private void endOperand(int arity) {
            operand = arity;
            awaited = AWAITS_MORE;
        }

        /** The innermost Q or { that has the name goes before a relation. */
        private void takeName() {
            for (int i = opens - 1; i >= 0; i--) {
                if (openParts[i] == BODY && openNames[i] == tape.name) {
                    addOperand(VARIABLE, i, 1);
                    return;
                }
            }
            int relation = world.numberOf(tape.name);
            if (relation == NONE) {
                refuse(UNKNOWN_NAME, tape.place);
            } else {
                addOperand(RELATION, relation, world.arities[relation]);
            }
        }

        private void takeBoundName(int kind) {
            if (kind != NAME || opens == 0) {
                refuseToken();
                return;
            }
            openNames[opens - 1] = tape.name;
            awaited = AWAITS_COLON;
        }

        private void takeColon(int kind) {
            if (kind != COLON) {
                refuseToken();
                return;
            }
            awaited = AWAITS_OPERAND;
        }

        private void takeNumber(int kind) {
            if (kind != NUMBER || opens == 0) {
                refuseToken();
                return;
            }
            opens--;
            code.add(HASH, tape.number, numberSign);
            endOperand(0);
        }

        private boolean open(int kind) {
            if (opens >= MAX_OPEN) {
                refuse(TOO_MUCH, tape.place);
                return false;
            }
            openKinds[opens] = kind;
            openParts[opens] = PLAIN;
            openPlaces[opens] = tape.place;
            openLefts[opens] = operand;
            openStarts[opens] = isConnective(kind) ? code.add(kind, 0, 0) : NONE;
            opens++;
            awaited = AWAITS_OPERAND;
            return true;
        }

        private void openBinder(int kind) {
            if (open(kind)) {
                openParts[opens - 1] = DOMAIN;
                openStarts[opens - 1] = code.add(BIND, opens - 1, kind);
                awaited = AWAITS_NAME;
            }
        }

        private boolean awaitsFormula() {
            if (opens == 0) {
                return isWholeFormula;
            }
            if (openParts[opens - 1] != PLAIN) {
                return openParts[opens - 1] == BODY;
            }
            switch (openKinds[opens - 1]) {
                case NOT: case AND: case OR: case IMPLIES: case IFF: case SQUARE: return true;
                default: return false;
            }
        }

        /** An expression was read where a formula must be: in or = and another one must follow. */
        private boolean lacksComparison() {
            return operand != 0 && awaitsFormula();
        }

        /** First ends what the token is no part of, which may show wrong arities; then looks at the token. */
        private void takeBehind(int kind) {
            for (int i = 0; i < MAX_OPEN && refusal == 0 && endsTop(kind); i++) {
                closeTop();
            }
            if (refusal != 0) {
                return;
            }
            if (mayJoin(kind)) {
                open(kind);
            } else if (opens == 0 || lacksComparison()) {
                takeAtEnd(kind);
            } else if (openParts[opens - 1] == DOMAIN) {
                takeBar(kind);
            } else {
                takeCloser(kind);
            }
        }

        private boolean endsTop(int kind) {
            if (opens == 0 || lacksComparison() || openParts[opens - 1] == DOMAIN) {
                return false;
            }
            int top = openKinds[opens - 1];
            int strength = joinStrength(kind);
            if (openParts[opens - 1] == BODY) {
                return top != CURLY && strength == NO_STRENGTH;
            }
            int own = strengthOf(top);
            return own > strength || own == strength && own != NO_STRENGTH && top != IMPLIES;
        }

        /** How strongly a token binds that joins two operands, the first of them being the present one. */
        private int joinStrength(int kind) {
            switch (kind) {
                case IFF: case IMPLIES: case OR: case AND:
                    return strengthOf(kind);
                case IN: case EQUAL: case PLUS: case MINUS: case MEET: case ARROW:
                case OVERRIDE: case FIRSTS: case LASTS: case DOT:
                    return operand == 0 ? NO_STRENGTH : strengthOf(kind);
                default:
                    return NO_STRENGTH;
            }
        }

        private static int strengthOf(int kind) {
            switch (kind) {
                case IFF: return 1;
                case IMPLIES: return 2;
                case OR: return 3;
                case AND: return AND_STRENGTH;
                case NOT: return 5;
                case IN: case EQUAL: case SOME: case NO: case LONE: case ONE: return COMPARE_STRENGTH;
                case PLUS: case MINUS: return 7;
                case MEET: return 8;
                case ARROW: return 9;
                case OVERRIDE: case FIRSTS: case LASTS: return 10;
                case DOT: return 11;
                case TILDE: case HAT: case STAR: return 12;
                default: return NO_STRENGTH;
            }
        }

        private boolean mayJoin(int kind) {
            int strength = joinStrength(kind);
            if (strength == NO_STRENGTH) {
                return false;
            }
            if (strength <= AND_STRENGTH) {
                return operand == 0;
            }
            return strength > COMPARE_STRENGTH || awaitsFormula();
        }

        private void takeAtEnd(int kind) {
            if (lacksComparison()) {
                refuseToken();
            } else if (kind == END) {
                isDone = true;
            } else {
                refuse(BEHIND_ALL, tape.place);
            }
        }

        private void takeBar(int kind) {
            int top = opens - 1;
            if (operand != 1) {
                refuse(WRONG_ARITY, openPlaces[top]);
            } else if (kind != BAR) {
                refuseToken();
            } else {
                openParts[top] = BODY;
                code.middles[openStarts[top]] = code.length;
                awaited = AWAITS_OPERAND;
            }
        }

        private void takeCloser(int kind) {
            int top = openKinds[opens - 1];
            if (top == HASH && (kind == EQUAL || kind == LESS || kind == MORE)) {
                numberSign = kind;
                awaited = AWAITS_NUMBER;
            } else if (top == ROUND && kind == ROUND_END || top == SQUARE && kind == SQUARE_END) {
                opens--;
            } else if (top == CURLY && kind == CURLY_END) {
                endBinder();
            } else {
                refuseToken();
            }
        }

        private void closeTop() {
            int top = opens - 1;
            if (top < 0) {
                return;
            }
            if (openParts[top] == BODY) {
                endBinder();
                return;
            }
            if (isConnective(openKinds[top])) {
                code.ends[openStarts[top]] = code.length;
            } else {
                applyTop(top);
            }
            opens--;
        }

        private void applyTop(int top) {
            int arity = fitting(openKinds[top], openLefts[top], operand);
            if (arity == MISFIT) {
                refuse(WRONG_ARITY, openPlaces[top]);
            } else {
                code.add(openKinds[top], 0, 0);
                operand = arity;
            }
        }

        private void endBinder() {
            int top = opens - 1;
            code.endBinder(openStarts[top], top, bodiesBelow(top));
            operand = openKinds[top] == CURLY ? 1 : 0;
            opens--;
        }

        private int bodiesBelow(int top) {
            int bodies = 0;
            for (int i = 0; i < top; i++) {
                bodies |= openParts[i] == BODY ? 1 << i : 0;
            }
            return bodies;
        }

        /** The arity of what an operator makes of operands of these arities (left is free before a prefix). */
        private static int fitting(int kind, int left, int right) {
            switch (kind) {
                case IN: case EQUAL:
                    return left == right ? 0 : MISFIT;
                case PLUS: case MINUS: case MEET:
                    return left == right ? left : MISFIT;
                case ARROW:
                    return left + right <= MAX_ARITY ? left + right : MISFIT;
                case OVERRIDE:
                    return left == 2 && right == 2 ? 2 : MISFIT;
                case FIRSTS:
                    return left == 1 ? right : MISFIT;
                case LASTS:
                    return right == 1 ? left : MISFIT;
                case DOT:
                    return left + right >= 3 && left + right <= 5 ? left + right - 2 : MISFIT;
                case TILDE: case HAT: case STAR:
                    return right == 2 ? 2 : MISFIT;
                default:
                    return 0;
            }
        }
    }

    /** Works out code for a block of assignments, on a stack of values. */
    private static final class Machine {
        /** A memo has a place for each pair of atoms, and each place a word for each atom of a { }. */
        private static final int MEMO_PLACES = MAX_ATOMS * MAX_ATOMS;
        private static final int PLANES = 10;

        private final World world;
        /** Value i has its words from i * MAX_TUPLES on. */
        final long[] cells = new long[MAX_VALUES * MAX_TUPLES];
        final int[] arities = new int[MAX_VALUES];
        private int height;
        private final int[] boundAtoms = new int[MAX_OPEN];
        private final long[] scratch = new long[MAX_TUPLES];
        private final long[] planes = new long[PLANES];
        /** For which assignments of the block a place of a memo is filled. */
        private final long[] memoKnown = new long[Code.MAX_MEMOS * MEMO_PLACES];
        private final long[] memoWords = new long[Code.MAX_MEMOS * MEMO_PLACES * MAX_ATOMS];

        Machine(World world) {
            this.world = world;
        }

        /** Leaves the result as value 0, right in the assignments that care names. */
        void work(Code code, int block, long care) {
            world.show(block);
            int places = code.memoCount * MEMO_PLACES;
            for (int i = 0; i < places; i++) {
                memoKnown[i] = 0;
            }
            height = 0;
            run(code, 0, code.length, care, 0);
        }

        private void run(Code code, int from, int to, long care, int depth) {
            if (depth > MAX_OPEN) {
                return;
            }
            int at = from;
            for (int i = 0; i < MAX_TOKENS && at < to; i++) {
                if (height >= MAX_VALUES) {
                    return;
                }
                if (code.ops[at] == BIND) {
                    bind(code, at, care, depth + 1);
                    at = code.ends[at];
                } else if (isConnective(code.ops[at])) {
                    connect(code, at, care, depth + 1);
                    at = code.ends[at];
                } else {
                    apply(code, at);
                    at++;
                }
            }
        }

        /** Asks what is behind and, or, implies only where what is before it leaves that open. */
        private void connect(Code code, int at, long care, int depth) {
            if (height < 1) {
                return;
            }
            int base = (height - 1) * MAX_TUPLES;
            long left = cells[base];
            long asked = care & (code.ops[at] == OR ? ~left : left);
            long right = asked == 0 ? 0 : formulaOf(code, at + 1, code.ends[at], asked, depth);
            cells[base] = joined(code.ops[at], left, right);
        }

        private long formulaOf(Code code, int from, int to, long care, int depth) {
            int before = height;
            if (before >= MAX_VALUES) {
                return 0;
            }
            run(code, from, to, care, depth);
            height = before;
            return cells[before * MAX_TUPLES];
        }

        private void bind(Code code, int at, long care, int depth) {
            int arity = code.signs[at] == CURLY ? 1 : 0;
            int place = memoPlace(code, at);
            if (place != NONE && (care & ~memoKnown[place]) == 0) {
                recall(place, arity);
                return;
            }
            run(code, at + 1, code.middles[at], care, depth);
            if (height == 0) {
                return;
            }
            if (arity == 1) {
                sift(code, at, care, depth);
            } else {
                quantify(code, at, care, depth);
            }
            if (place != NONE) {
                remember(place, arity, care);
            }
        }

        private int memoPlace(Code code, int at) {
            if (code.memos[at] == NONE) {
                return NONE;
            }
            int place = 0;
            for (int i = 0; i < MAX_OPEN; i++) {
                if ((code.uses[at] >>> i & 1) != 0) {
                    place = place * MAX_ATOMS + boundAtoms[i];
                }
            }
            return code.memos[at] * MEMO_PLACES + place;
        }

        private void recall(int place, int arity) {
            int base = height * MAX_TUPLES;
            int size = world.sizeOf(arity);
            for (int i = 0; i < size; i++) {
                cells[base + i] = memoWords[place * MAX_ATOMS + i];
            }
            arities[height] = arity;
            height++;
        }

        private void remember(int place, int arity, long care) {
            int base = (height - 1) * MAX_TUPLES;
            int size = world.sizeOf(arity);
            for (int i = 0; i < size; i++) {
                int at = place * MAX_ATOMS + i;
                memoWords[at] = memoWords[at] & ~care | cells[base + i] & care;
            }
            memoKnown[place] |= care;
        }

        /** Puts the verdict of a Q in the place of its E. */
        private void quantify(Code code, int at, long care, int depth) {
            int sign = code.signs[at];
            int domain = (height - 1) * MAX_TUPLES;
            long undecided = care;
            long once = 0;
            long twice = 0;
            for (int atom = 0; atom < world.atoms; atom++) {
                long asked = cells[domain + atom] & undecided;
                if (asked == 0) {
                    continue;
                }
                boundAtoms[code.args[at]] = atom;
                long body = formulaOf(code, code.middles[at], code.ends[at], asked, depth);
                // For all, what is looked for is an atom for which F is false.
                long hit = asked & (sign == ALL ? ~body : body);
                twice |= once & hit;
                once |= hit;
                undecided &= sign == LONE || sign == ONE ? ~twice : ~once;
            }
            cells[domain] = verdict(sign, once, twice);
            arities[height - 1] = 0;
        }

        /** Leaves of the atoms of E those for which F is true. */
        private void sift(Code code, int at, long care, int depth) {
            int domain = (height - 1) * MAX_TUPLES;
            for (int atom = 0; atom < world.atoms; atom++) {
                long asked = cells[domain + atom] & care;
                if (asked != 0) {
                    boundAtoms[code.args[at]] = atom;
                    asked &= formulaOf(code, code.middles[at], code.ends[at], asked, depth);
                }
                cells[domain + atom] = asked;
            }
        }

        private static long verdict(int sign, long once, long twice) {
            switch (sign) {
                case SOME: return once;
                case LONE: return ~twice;
                case ONE: return once & ~twice;
                default: return ~once;
            }
        }

        private void apply(Code code, int at) {
            int op = code.ops[at];
            switch (op) {
                case VARIABLE: case NOTHING: case UNIV: case IDEN: case TRUE: case FALSE:
                    pushConstant(op, boundAtoms[op == VARIABLE ? code.args[at] : 0]);
                    break;
                case RELATION:
                    pushRelation(code.args[at]);
                    break;
                case HASH:
                    compareSize(code.signs[at], code.args[at]);
                    break;
                case SOME: case NO: case LONE: case ONE:
                    judgeSize(op);
                    break;
                case NOT: case TILDE: case HAT: case STAR:
                    applyPrefix(op);
                    break;
                case IN: case EQUAL:
                    compare(op);
                    break;
                case DOT:
                    join();
                    break;
                case ARROW:
                    multiply();
                    break;
                case FIRSTS:
                    keepFirsts();
                    break;
                default:
                    applyWordwise(op);
                    break;
            }
        }

        private void pushConstant(int op, int atom) {
            int arity = op == TRUE || op == FALSE ? 0 : op == IDEN ? 2 : 1;
            int base = height * MAX_TUPLES;
            int size = world.sizeOf(arity);
            long word = op == UNIV || op == TRUE ? -1L : 0L;
            for (int i = 0; i < size; i++) {
                cells[base + i] = word;
            }
            if (op == VARIABLE) {
                cells[base + atom] = -1L;
            }
            arities[height] = arity;
            height++;
            if (op == IDEN) {
                addIdentity(base);
            }
        }

        private void pushRelation(int relation) {
            int base = height * MAX_TUPLES;
            int from = relation * MAX_TUPLES;
            int size = world.sizeOf(world.arities[relation]);
            for (int i = 0; i < size; i++) {
                cells[base + i] = world.words[from + i];
            }
            arities[height] = world.arities[relation];
            height++;
        }

        private void addIdentity(int base) {
            for (int i = 0; i < world.atoms; i++) {
                cells[base + i * world.atoms + i] = -1L;
            }
        }

        private void judgeSize(int op) {
            if (height < 1) {
                return;
            }
            int base = (height - 1) * MAX_TUPLES;
            int size = world.sizeOf(arities[height - 1]);
            long once = 0;
            long twice = 0;
            for (int i = 0; i < size; i++) {
                twice |= once & cells[base + i];
                once |= cells[base + i];
            }
            cells[base] = verdict(op, once, twice);
            arities[height - 1] = 0;
        }

        /** Counts for all assignments at once: plane p has bit p of each one's count. */
        private void compareSize(int sign, int number) {
            if (height < 1) {
                return;
            }
            int base = (height - 1) * MAX_TUPLES;
            int size = world.sizeOf(arities[height - 1]);
            Arrays.fill(planes, 0L);
            for (int i = 0; i < size; i++) {
                long carry = cells[base + i];
                for (int p = 0; p < PLANES && carry != 0; p++) {
                    long both = planes[p] & carry;
                    planes[p] ^= carry;
                    carry = both;
                }
            }
            long less = 0;
            long equal = -1L;
            for (int p = PLANES - 1; p >= 0; p--) {
                if ((number >>> p & 1) != 0) {
                    less |= equal & ~planes[p];
                    equal &= planes[p];
                } else {
                    equal &= ~planes[p];
                }
            }
            cells[base] = sign == EQUAL ? equal : sign == LESS ? less : ~(less | equal);
            arities[height - 1] = 0;
        }

        private void applyPrefix(int op) {
            if (height < 1) {
                return;
            }
            int base = (height - 1) * MAX_TUPLES;
            if (op == NOT) {
                cells[base] = ~cells[base];
            } else if (op == TILDE) {
                turnAbout(base);
            } else {
                reach(base);
            }
            if (op == STAR) {
                addIdentity(base);
            }
        }

        private void turnAbout(int base) {
            int n = world.atoms;
            for (int i = 0; i < n; i++) {
                for (int j = 0; j < i; j++) {
                    long word = cells[base + i * n + j];
                    cells[base + i * n + j] = cells[base + j * n + i];
                    cells[base + j * n + i] = word;
                }
            }
        }

        private void reach(int base) {
            int n = world.atoms;
            for (int k = 0; k < n; k++) {
                for (int i = 0; i < n; i++) {
                    for (int j = 0; j < n; j++) {
                        cells[base + i * n + j] |= cells[base + i * n + k] & cells[base + k * n + j];
                    }
                }
            }
        }

        private void join() {
            if (height < 2) {
                return;
            }
            height--;
            int n = world.atoms;
            int left = (height - 1) * MAX_TUPLES;
            int right = height * MAX_TUPLES;
            int fronts = world.sizeOf(arities[height - 1] - 1);
            int backs = world.sizeOf(arities[height] - 1);
            for (int i = 0; i < fronts; i++) {
                for (int j = 0; j < backs; j++) {
                    scratch[i * backs + j] = 0;
                }
                for (int k = 0; k < n; k++) {
                    long word = cells[left + i * n + k];
                    for (int j = 0; j < backs && word != 0; j++) {
                        scratch[i * backs + j] |= word & cells[right + k * backs + j];
                    }
                }
            }
            System.arraycopy(scratch, 0, cells, left, fronts * backs);
            arities[height - 1] += arities[height] - 2;
        }

        private void multiply() {
            if (height < 2) {
                return;
            }
            height--;
            int left = (height - 1) * MAX_TUPLES;
            int right = height * MAX_TUPLES;
            int fronts = world.sizeOf(arities[height - 1]);
            int backs = world.sizeOf(arities[height]);
            for (int i = 0; i < fronts; i++) {
                for (int j = 0; j < backs; j++) {
                    scratch[i * backs + j] = cells[left + i] & cells[right + j];
                }
            }
            System.arraycopy(scratch, 0, cells, left, fronts * backs);
            arities[height - 1] += arities[height];
        }

        private void keepFirsts() {
            if (height < 2) {
                return;
            }
            height--;
            int left = (height - 1) * MAX_TUPLES;
            int right = height * MAX_TUPLES;
            int fronts = world.atoms;
            int backs = world.sizeOf(arities[height] - 1);
            for (int i = 0; i < fronts; i++) {
                for (int j = 0; j < backs; j++) {
                    scratch[i * backs + j] = cells[left + i] & cells[right + i * backs + j];
                }
            }
            System.arraycopy(scratch, 0, cells, left, fronts * backs);
            arities[height - 1] = arities[height];
        }

        /** Operators whose words can be put in the first operand's place one by one. */
        private void applyWordwise(int op) {
            if (height < 2) {
                return;
            }
            height--;
            int left = (height - 1) * MAX_TUPLES;
            int right = height * MAX_TUPLES;
            if (op == OVERRIDE) {
                dropBegun(left, right);
            }
            int size = world.sizeOf(arities[height - 1]);
            // Of :> the second operand has a word for each last atom alone.
            int around = op == LASTS ? world.atoms : size;
            for (int i = 0, j = 0; i < size; i++, j = j + 1 < around ? j + 1 : 0) {
                cells[left + i] = joined(op, cells[left + i], cells[right + j]);
            }
        }

        private static long joined(int op, long left, long right) {
            switch (op) {
                case MEET: case LASTS: case AND: return left & right;
                case MINUS: return left & ~right;
                case IMPLIES: return ~left | right;
                case IFF: return ~(left ^ right);
                default: return left | right;
            }
        }

        private void compare(int op) {
            if (height < 2) {
                return;
            }
            height--;
            int left = (height - 1) * MAX_TUPLES;
            int right = height * MAX_TUPLES;
            int size = world.sizeOf(arities[height - 1]);
            long differ = 0;
            for (int i = 0; i < size; i++) {
                differ |= cells[left + i] & ~cells[right + i];
                if (op == EQUAL) {
                    differ |= cells[right + i] & ~cells[left + i];
                }
            }
            cells[left] = ~differ;
            arities[height - 1] = 0;
        }

        /** For ++: drops the pairs of the first operand that begin as some of the second one do. */
        private void dropBegun(int left, int right) {
            int n = world.atoms;
            for (int i = 0; i < n; i++) {
                long begun = 0;
                for (int j = 0; j < n; j++) {
                    begun |= cells[right + i * n + j];
                }
                for (int j = 0; j < n; j++) {
                    cells[left + i * n + j] &= ~begun;
                }
            }
        }
    }

    /** The renamings of atoms that are fair, and what they make of FREE tuples. */
    private static final class Renamings {
        private final World world;
        boolean isFound;
        int found;
        private final int[] exchanged = new int[MAX_ATOMS];
        /** Of each fair renaming and each FREE tuple which FREE tuple it becomes, by their order. */
        private final int[] images = new int[MAX_RENAMINGS * MAX_FREE];

        Renamings(World world) {
            this.world = world;
        }

        void find() {
            if (isFound) {
                return;
            }
            found = 0;
            for (int i = 0; i < MAX_ATOMS; i++) {
                exchanged[i] = i;
            }
            boolean isMore = true;
            for (int i = 0; i < MAX_RENAMINGS && isMore; i++) {
                if (isFair()) {
                    keep();
                }
                isMore = step();
            }
            isFound = true;
        }

        /** As a renaming loses no tuple, it is enough that each IN and FREE one becomes such a one. */
        private boolean isFair() {
            for (int relation = 0; relation < world.relations; relation++) {
                int first = relation * MAX_TUPLES;
                int arity = world.arities[relation];
                for (int tuple = 0; tuple < world.sizeOf(arity); tuple++) {
                    int state = world.states[first + tuple];
                    if (state != 0 && world.states[first + imageOf(tuple, arity)] != state) {
                        return false;
                    }
                }
            }
            return true;
        }

        private int imageOf(int tuple, int arity) {
            int n = world.atoms;
            if (n < 1) {
                return tuple;
            }
            int rest = tuple;
            int weight = 1;
            int image = 0;
            for (int i = 0; i < arity; i++) {
                image += exchanged[rest % n] * weight;
                rest /= n;
                weight *= n;
            }
            return image;
        }

        private void keep() {
            for (int i = 0; i < world.frees; i++) {
                int relation = world.free[i] / MAX_TUPLES;
                int image = imageOf(world.free[i] % MAX_TUPLES, world.arities[relation]);
                images[found * MAX_FREE + i] = world.rankOf(relation * MAX_TUPLES + image);
            }
            found++;
        }

        /** Goes to the next order of the atoms; false behind the last one. */
        private boolean step() {
            int n = world.atoms;
            int at = n - 2;
            while (at >= 0 && exchanged[at] > exchanged[at + 1]) {
                at--;
            }
            if (at < 0) {
                return false;
            }
            int other = n - 1;
            while (other > at && exchanged[other] < exchanged[at]) {
                other--;
            }
            swap(at, other);
            for (int i = at + 1, j = n - 1; i < j; i++, j--) {
                swap(i, j);
            }
            return true;
        }

        private void swap(int i, int j) {
            int atom = exchanged[i];
            exchanged[i] = exchanged[j];
            exchanged[j] = atom;
        }

        /** Marks all that are alike to an assignment, itself too. */
        void markAlike(int assignment, long[] marks) {
            int last = world.frees - 1;
            for (int r = 0; r < found; r++) {
                int image = 0;
                for (int i = 0; i <= last; i++) {
                    if ((assignment >>> last - i & 1) != 0) {
                        image |= 1 << last - images[r * MAX_FREE + i];
                    }
                }
                marks[image / BLOCK] |= 1L << image % BLOCK;
            }
        }
    }
}
