/** The boundary cases of the tape, its tokens and the faults, sentence by sentence as 'Terms' has them. */
public final class FaultTests extends TextChecks {
    private static final String[] KEYWORDS = {"all", "some", "no", "lone", "one", "not", "and", "or", "implies", "iff", "in",
        "none", "univ", "iden", "true", "false"};
    private static final String SIGNS = "+-&.~^*#=<>()[]{}:|";
    /** A relation of each arity. */
    private static final String[] OF_ARITY = {"", "p", "r", "t"};

    public static void main(String[] args) {
        usedUp();
        remnants();
        fullTape();
        blanks();
        firstBytes();
        longestWords();
        keywords();
        longestNumbers();
        longerSigns();
        boundNames();
        wrongTokens();
        ends();
        misplaced();
        unknownNames();
        aritiesOfJoined();
        aritiesOfPrefixed();
        aritiesOfBinders();
        aritiesOfConstants();
        furtherInFirst();
        whenArityIsMet();
        tokenLimit();
        openLimit();
        whatStandsOpen();
        behindTheWhole();
        lookahead();
        emptyTexts();
        end("all faults are as due");
    }

    // ---- the tape

    private static void usedUp() {
        of("TEXT calls use it up, whatever comes of them");
        for (String text : new String[] {"true", "univ", "true $", "", " "}) {
            Finder x = solved();
            due("present", x.told(5), 1);
            x.value(text);
            due("value " + text, x.told(6), 0);
            x.holds(text);
            due("holds " + text, x.told(6), 0);
            x.claim(text);
            due("claim " + text, x.told(6), 0);
            x.fact(text);
            due("fact " + text, x.told(6), 0);
            due("nothing is left of it", x.fact("true") >= 0, true);
            x.put(text);
            dueThrow("value " + text, STATE, x::value);
            due("value that throws " + text, x.told(6), 0);
            x.put(text);
            dueThrow("holds " + text, STATE, x::holds);
            due("holds that throws " + text, x.told(6), 0);
            due("nothing is left of it", x.claim("true"), 0);
        }
        Finder x = world();
        for (int i = 0; i < 16; i++) {
            x.fact("true");
        }
        x.put("true");
        dueThrow("17th fact", UNSUPPORTED, x::fact);
        due("fact that throws", x.told(6), 0);
        x.back();
        due("nothing is left of it", x.fact("true"), 15);
    }

    /** The first text would go on as the second one, were it not for its end. */
    private static void dueAlone(String begun, int kind, int place, String before) {
        Finder x = world();
        x.claim(before);
        int answer = x.claim(begun);
        due(begun + " after " + before, answer, kind == 0 ? 0 : -1 - place);
        due(begun + " after " + before + ", fault", x.fault(false), kind);
    }

    private static void remnants() {
        of("TEXT calls use it up: nothing of an earlier text is read again");
        dueAlone("# p = 1", 0, -1, "# p = 1234");
        dueAlone("some p", 0, -1, "some pppppppp");
        dueAlone("some p", 0, -1, "some p.p.p.p.p");
        dueAlone("true", 0, -1, "trueimplies");
        dueAlone("true", 0, -1, "true true true");
        dueAlone("some x:", 2, 7, "some x:> p");
        dueAlone("some x", 4, 5, "some x: p | true");
        dueAlone("some x ", 4, 5, "some x : p | true");
        dueAlone("all x:", 2, 6, "all x:> p");
        dueAlone("p -", 2, 3, "p -> p = r");
        dueAlone("# p <", 2, 5, "# p <: r = 1");
        dueAlone("r +", 2, 3, "r ++ r = r");
        dueAlone("r :", 3, 2, "r :> p = r");
        dueAlone("no", 2, 2, "none = p");
        dueAlone("", 2, 0, "true");
    }

    /** A text whose last byte is the last that the tape can have. */
    private static void atTheEnd(String text, int kind, int place) {
        int blanks = 600 - text.length();
        formula(times(" ", blanks) + text, kind, blanks + place);
    }

    private static void fullTape() {
        of("THE TAPE has bytes, 600 at most");
        atTheEnd("true", 0, 0);
        atTheEnd("some p", 0, 0);
        atTheEnd("# p = 1", 0, 0);
        atTheEnd("# p = 123", 0, 0);
        atTheEnd("# p = 1234", 1, 6);
        atTheEnd("[p = p]", 0, 0);
        atTheEnd("some x", 4, 5);
        atTheEnd("some x:", 2, 7);
        atTheEnd("some x :", 2, 8);
        atTheEnd("some x :>", 4, 5);
        atTheEnd("some x ", 4, 5);
        atTheEnd("some ", 2, 5);
        atTheEnd("some", 2, 4);
        atTheEnd("all x:", 2, 6);
        atTheEnd("all x:>", 3, 5);
        atTheEnd("p -", 2, 3);
        atTheEnd("r +", 2, 3);
        atTheEnd("# p <", 2, 5);
        atTheEnd("r :", 3, 2);
        atTheEnd("true or $", 1, 8);
        atTheEnd("true or abcdefg", 1, 8);
        atTheEnd("true implies", 2, 12);
        atTheEnd(times("[", 100), 6, 20);
        atTheEnd(times("p.", 300), 5, 1);
        atTheEnd(times("p+", 300), 6, 200);
        atTheEnd(times("p ", 300), 3, 2);
    }

    // ---- tokens

    private static void blanks() {
        of("BLANKS (bytes up to 32, counted as 0 .. 255)");
        for (int b = 0; b < 256; b++) {
            String text = "true" + (char) b;
            boolean isLetter = b >= 'a' && b <= 'z';
            boolean isOther = b >= '0' && b <= '9' || SIGNS.indexOf(b) >= 0;
            formula(text, b <= 32 ? 0 : isLetter ? 4 : isOther ? 7 : 1, isLetter ? 0 : 4);
            if (b <= 32) {
                taken((char) b + "some" + (char) b + (char) b + "p" + (char) b);
                refused(4, "some `a" + (char) b + "b");
            }
        }
        refused(1, "true`\u0080");
        refused(1, "true `\u00ff");
        refused(1, "`\u00a0true");
    }

    private static void firstBytes() {
        of("1 a token that is none of those told");
        for (int b = 33; b < 256; b++) {
            String text = (char) b + "true";
            boolean isLetter = b >= 'a' && b <= 'z';
            boolean isDigit = b >= '0' && b <= '9';
            boolean opensExpression = "~^*#({".indexOf(b) >= 0;
            if (b == '[') {
                formula(text, 2, 5);
            } else if (isLetter) {
                formula(text, 4, 0);
            } else if (isDigit || SIGNS.indexOf(b) >= 0) {
                formula(text, 3, opensExpression ? 1 : 0);
            } else {
                formula(text, 1, 0);
            }
        }
    }

    private static void longestWords() {
        of("NAMES and KEYWORDS are the longest rows of small letters");
        for (int letters = 1; letters <= 40; letters++) {
            String row = times("w", letters);
            formula("some " + row, letters <= 6 ? 4 : 1, 5);
            formula("all " + row + " : p | " + row + " = p", letters <= 6 ? 0 : 1, 4);
        }
        formula(times("w", 600), 1, 0);
        for (String letters : new String[] {"a", "z", "az", "zzzzzz", "abcdef"}) {
            Finder x = new Finder(2);
            x.relation(letters, 1);
            due(letters, x.fact("no " + letters), 0);
            due(letters + " without its last letter", x.fact("no " + letters.substring(1) + "x"), -4);
        }
        refused(4, "`allx : p | true");
        refused(4, "`notp = p");
        refused(4, "no `ne");
        refused(4, "`someab");
        refused(1, "`trueand true");
        taken("some ab");
        refused(3, "all x : p `orx = p");
        taken("some(p)and[true]or~r=r");
        taken("#p=1or#p=2and#p<3");
        refused(1, "p in `P");
        refused(1, "some p`A");
    }

    private static void keywords() {
        of("They are the KEYWORDS; NAMES are no KEYWORDS");
        for (String word : KEYWORDS) {
            Finder x = new Finder(2);
            dueThrow("relation " + word, ARGUMENT, () -> x.relation(word, 1));
            formula("all " + word + " : p | true", 3, 4);
            formula("{" + word + " : p | true} = p", 3, 1);
            int longer = word.length() + 1;
            formula("all " + word + "x : p | true", longer <= 6 ? 0 : 1, 4);
            formula("all x" + word + " : p | true", longer <= 6 ? 0 : 1, 4);
            String shorter = word.substring(1);
            boolean isName = !java.util.Arrays.asList(KEYWORDS).contains(shorter);
            formula("all " + shorter + " : p | true", isName ? 0 : 3, 4);
        }
        taken("true implies true");
        refused(1, "true `impliess true");
        refused(1, "true `iimplies true");
        refused(7, "true `implie true");
    }

    private static void longestNumbers() {
        of("NUMBERS the longest rows of digits 0 .. 9 (at most 3)");
        String all = "univ->univ->univ";
        holds("# " + all + " = 8", 1);
        holds("# " + all + " = 08", 1);
        holds("# " + all + " = 008", 1);
        holds("# " + all + " = 80", 0);
        holds("# " + all + " > 0", 1);
        holds("# " + all + " > 000", 1);
        holds("# " + all + " < 999", 1);
        holds("# " + all + " > 999", 0);
        holds("# " + all + " = 136", 0);
        holds("# " + all + " = 264", 0);
        holds("# " + all + " = 520", 0);
        refused(1, "# p = `0000");
        refused(1, "# p = `0008");
        refused(1, "# p = `1000");
        refused(1, "# p = `9999999999999999999999");
        refused(1, "`1234");
        refused(3, "`123");
        refused(7, "# p = 12 `3");
        refused(7, "# p = 123 `4");
        refused(7, "# p = 123`a");
        refused(7, "some p`1");
        refused(3, "# p = `-1");
    }

    private static void longerSigns() {
        of("the signs -> ++ <: :> (the longer before the shorter)");
        taken("p->p=r");
        taken("r++r=r");
        taken("p<:r=r");
        taken("r:>p=r");
        refused(3, "p- `>p=r");
        refused(3, "r+ `+r=r");
        refused(3, "p`< :r=r");
        refused(3, "r`: >p=r");
        refused(3, "r++`+r=r");
        refused(3, "r++ `++r=r");
        refused(3, "p-`->p=r");
        refused(3, "p->`>p=r");
        refused(3, "#p<:`>2");
        refused(3, "all x:`:>p|true");
        refused(3, "all x`:>p|true");
        refused(3, "r:>`:p=r");
        refused(3, "#p<`<2");
        taken("#p<:r=0");
        taken("#r:>p>0");
        taken("#p->p>0");
        taken("#p-p>0");
        taken("#p<2");
        taken("all x:p|true");
    }

    private static void boundNames() {
        of("1 to 6 small letters a .. z, and no KEYWORDS");
        taken("all a : p | a = p");
        taken("all z : p | z = p");
        taken("all abcdef : p | abcdef = p");
        taken("{zzzzzz : p | zzzzzz = p} = p");
        refused(1, "all `abcdefg : p | true");
        refused(1, "{`abcdefg : p | true} = p");
        refused(3, "all `1 : p | true");
        refused(3, "{`~ : p | true} = p");
        refused(1, "all `@ : p | true");
        refused(1, "all `A : p | true");
    }

    // ---- faults

    private static void wrongTokens() {
        of("fault 1, its place is that of a token's first byte");
        refused(1, "`$");
        refused(1, "  `$");
        refused(1, "true and `$");
        refused(1, "some p`$");
        refused(1, "some p and no `abcdefgh");
        refused(1, "# p = `12345");
        refused(1, "all x : p `! true");
        refused(1, "true `\"");
        refused(1, "p = p `/");
        of("each when the one before it was found to stand where it may");
        refused(3, "`) $");
        refused(4, "`foo $");
        refused(3, "true and `or $");
        refused(7, "true `true $");
        refused(3, "p `p $");
        refused(4, "p = `foo abcdefg");
        refused(3, "all `3 $");
    }

    private static void ends() {
        of("fault 2 the text ends too early, at the end, how many bytes there are");
        for (int blanks = 0; blanks <= 9; blanks++) {
            String behind = times(" ", blanks);
            for (String begun : new String[] {"", "not", "p", "p =", "some", "some p and", "all", "all x", "all x :", "all x : p",
                "all x : p |", "#", "# p", "# p <", "[true", "(p", "{", "{x", "{x :", "{x : p", "{x : p |", "{x : p | true",
                "{x : p | true}", "~", "p +", "p in p or"}) {
                formula(begun + behind, 2, begun.length() + blanks);
            }
        }
        formula("some" + times(" ", 596), 2, 600);
        formula(times(" ", 598) + "p=", 2, 600);
        formula(times(" ", 597) + "p=p", 0, -1);
    }

    private static void misplaced() {
        of("fault 3 a token that can't stand there");
        refused(3, "`and");
        refused(3, "true and `)");
        refused(3, "p `)");
        refused(3, "[true `)");
        refused(3, "(p `]");
        refused(3, "{x : p | true `]");
        refused(3, "# p `~");
        refused(3, "# p = `p");
        refused(3, "all x `|");
        refused(3, "all x : p `:");
        refused(3, "all x : p | `|");
        refused(3, "p = `some p");
        refused(3, "some `some p");
        refused(3, "some `all x : p | true");
        refused(3, "not p `not");
        refused(3, "[p = p `= p]");
        refused(3, "[all x : p | true `= p]");
        refused(3, "(p `= p)");
        refusedExpression(3, "`some p");
        refusedExpression(3, "p + `true");
    }

    private static void unknownNames() {
        of("fault 4 a NAME that nothing has");
        refused(4, "`foo = p");
        refused(4, "p = `foo");
        refused(4, "p =   `pp");
        refused(4, "all x : `x | true");
        refused(4, "[all x : p | x = p] and `x = p");
        refused(4, "{x : p | x = p} + `x = p");
        refused(4, "all x : p | all y : `y | true");
        taken("all x : p | all x : x | x = p");
        refused(3, "p `foo");
        refused(7, "true `foo");
        of("a NAME: of the innermost Q or { that has it, else of a relation");
        taken("all r : p | r = p");
        holds("some x : univ | # {y : univ | some x : y | x = y} = 2", 1);
        holds("all x : univ | x in {x : univ - x | true}", 0);
        holds("all r : univ | some r : r | one r", 1);
        refused(5, "[all r : p | r = p] and r `= p");
        refused(5, "all r : p | r `= iden");
        refused(5, "`all r : r | true");
    }

    /** The arity of what a sign makes of two operands, as the document tells it; -1 if it does not fit. */
    private static int made(String sign, int left, int right) {
        switch (sign) {
            case "->": return left + right >= 4 ? -1 : left + right;
            case ".": return left + right - 2 == 0 || left + right - 2 == 4 ? -1 : left + right - 2;
            case "++": return left == 2 && right == 2 ? 2 : -1;
            case "<:": return left == 1 ? right : -1;
            case ":>": return right == 1 ? left : -1;
            default: return left == right ? left : -1;
        }
    }

    private static void aritiesOfJoined() {
        of("5 a wrong ARITY (++ <: :> + - & -> . in =)");
        for (String sign : new String[] {"+", "-", "&", "->", "++", "<:", ":>", "."}) {
            for (int left = 1; left <= 3; left++) {
                for (int right = 1; right <= 3; right++) {
                    int due = made(sign, left, right);
                    String text = OF_ARITY[left] + " " + sign + " " + OF_ARITY[right];
                    expression(text, 0, due < 0 ? 5 : 0, 2);
                    if (due > 0) {
                        Finder x = solved();
                        x.value(text);
                        due(text + " arity", x.told(7), due);
                    }
                }
            }
        }
        for (String sign : new String[] {"in", "="}) {
            for (int left = 1; left <= 3; left++) {
                for (int right = 1; right <= 3; right++) {
                    formula(OF_ARITY[left] + " " + sign + " " + OF_ARITY[right], left == right ? 0 : 5, 2);
                }
            }
        }
        of("-> would be of ARITY 4 or more, . of 0 or of 4");
        refusedExpression(5, "p -> p -> p `-> p");
        refusedExpression(5, "p -> r `-> p");
        refusedExpression(5, "p `-> (p -> r)");
        expression("p -> (p -> p)", 0, 0, -1);
        refusedExpression(5, "p . r `. p");
        refusedExpression(5, "t `. t . p");
        expression("t . (t . p)", 0, 0, -1);
    }

    private static void aritiesOfPrefixed() {
        of("5 a wrong ARITY (~ ^ *)");
        for (String sign : new String[] {"~", "^", "*"}) {
            for (int arity = 1; arity <= 3; arity++) {
                String text = " " + sign + OF_ARITY[arity];
                expression(text, sign.equals("*") ? 2 : 0, arity == 2 ? 0 : 5, 1);
            }
        }
        of("some E, no E, lone E, one E, # E take each ARITY");
        for (String name : new String[] {"p", "r", "t"}) {
            taken("some " + name + " or no " + name + " or lone " + name + " or one " + name);
            taken("# " + name + " = 1 or # " + name + " < 1 or # " + name + " > 1");
        }
    }

    private static void aritiesOfBinders() {
        of("5 of Q and { these: E must be of ARITY 1");
        for (String word : new String[] {"all", "some", "no", "lone", "one"}) {
            taken("true or " + word + " x : p | true");
            refused(5, "true or `" + word + " x : r | true");
            refused(5, "true or `" + word + " x : t | true");
            refused(5, "true or `" + word + " x : p -> p | true");
        }
        taken("{x : p | true} = p");
        refused(5, "`{x : r | true} = p");
        refused(5, "p + `{x : t | true} = p");
        expression("{x : p | true}", 0, 0, -1);
        refusedExpression(5, "`{x : r | true}");
    }

    private static void aritiesOfConstants() {
        of("none, univ (ARITY 1), iden (ARITY 2), NAME of a Q or { (ARITY 1), { } (ARITY 1)");
        taken("none = p and univ = p and iden = r");
        refused(5, "none `= r");
        refused(5, "univ `= r");
        refused(5, "iden `= p");
        refused(5, "iden `= t");
        refused(5, "all x : p | x `= r");
        refused(5, "{x : p | true} `= r");
        taken("p in {x : p | x in p}");
    }

    private static void furtherInFirst() {
        of("(what stands further in first)");
        refusedExpression(5, "~`~p");
        refusedExpression(5, "~~`^p");
        refusedExpression(5, "p `. p . p");
        refusedExpression(5, "p + r `& p");
        refusedExpression(5, "p + `~p");
        refusedExpression(5, "r . p `. p");
        refused(5, "p in p `. p");
        refused(5, "r = p `+ r");
        refused(5, "all x : p `. p | true");
        refused(5, "{x : `~p | true} = r");
        refused(5, "r in (p `. p)");
        refused(5, "all x : p | x `in r");
        refused(5, "all x : {y : p | y `= r} -> p | true");
        refusedExpression(5, "p -> p -> p `-> p -> p");
    }

    private static void whenArityIsMet() {
        of("5 .. met when all that it has was read and the token behind that is no 1 or 6");
        refused(1, "p = r `$");
        refused(1, "p . p `abcdefg");
        refused(1, "~p `1234");
        refused(1, "all x : r `$");
        refused(1, "{x : r `!");
        refused(1, "~(p) `$");
        refused(1, "~(p `$");
        refused(1, "p . (p) `$");
        String before = "not " + times("p+", 97);
        formula(before + "p=r", 5, before.length() + 1);
        formula(before + "p=r ", 5, before.length() + 1);
        formula(before + "p=r or", 5, before.length() + 1);
        formula(before + "p=r or true", 5, before.length() + 1);
        formula("not " + before + "p=r or", 5, 4 + before.length() + 1);
        formula("not not " + before + "p=r or", 6, 8 + before.length() + 4);
        formula("not not " + before + "p=r $", 1, 8 + before.length() + 4);
        formula("not not " + before + "p=r", 5, 8 + before.length() + 1);
        of("but before it is asked whether that one can stand there");
        refused(5, "p `= r");
        refused(5, "p `= r )");
        refused(5, "p `= r foo");
        refused(5, "p `= r = p");
        refused(5, "p `= r true");
        refused(5, "p `. p foo");
        refused(5, "p `. p");
        refused(5, "p `. p |");
        refused(5, "[p `= r )");
        refused(5, "(p `. p ]");
        refused(5, "`~p foo");
        refused(5, "`~p 3");
        refused(5, "`all x : r");
        refused(5, "`all x : r )");
        refused(5, "`all x : r foo");
        refused(5, "`{x : r }");
        refusedExpression(5, "p `. p = p");
        refusedExpression(5, "p `. p )");
        of("5 is not met before all was read");
        refused(4, "p = `foo");
        refused(3, "r . `)");
        refused(2, "p + `");
        refused(3, "p . (p `true");
        refused(4, "p & (r + `foo)");
        refused(2, "p = (r`");
        refused(3, "p = (r `]");
    }

    private static void tokenLimit() {
        of("6 the 201st token (the 200th is none)");
        String most = "not p" + times("+p", 98) + "=p";
        taken(most);
        taken(most + "    ");
        formula(most + ")", 6, most.length());
        formula(most + "  true", 6, most.length() + 2);
        formula(most + "  $", 1, most.length() + 2);
        formula(most + "  abcdefg", 1, most.length() + 2);
        formula("not " + most, 6, most.length() + 3);
        formula("not " + most.substring(0, most.length() - 1), 2, most.length() + 3);
        String full = "(p" + times("+p", 98) + ")";
        expression(full, 0, 0, -1);
        expression("(" + full, 0, 2, 200);
        expression("(" + full + ")", 0, 6, 200);
        expression(full + "+", 0, 2, 200);
        expression(full + "+p", 0, 6, 200);
        expression(times("p ", 250), 0, 7, 2);
    }

    /** A thing that opens stands at the mark ` behind k brackets; with 19 it is the 20th, with 20 the 21st. */
    private static void opens(String marked) {
        String text = marked.replace("`", "");
        taken(times("[", 19) + text + times("]", 19));
        formula(times("[", 20) + text + times("]", 20), 6, 20 + marked.indexOf('`'));
    }

    private static void openLimit() {
        of("6 .. one that opens the 21st thing that stands open (the 20th is none)");
        opens("`not true");
        opens("`[true]");
        opens("`all x:p|true");
        opens("`some x:p|true");
        opens("`no x:p|true");
        opens("`lone x:p|true");
        opens("`one x:p|true");
        opens("`some p");
        opens("`no p");
        opens("`lone p");
        opens("`one p");
        opens("`#p=1");
        opens("`#p<1");
        opens("`#p>1");
        opens("p `in p");
        opens("p `= p");
        opens("true `iff true");
        opens("true `implies true");
        opens("true `or true");
        opens("true `and true");
        opens("p `+ p = p");
        opens("p `- p = p");
        opens("p `& p = p");
        opens("p `-> p = r");
        opens("r `++ r = r");
        opens("p `<: r = r");
        opens("r `:> p = r");
        opens("r `. r = r");
        opens("`~r = r");
        opens("`^r = r");
        opens("`*r = r");
        opens("`(p) = p");
        opens("`{x:p|true} = p");
        for (String opening : new String[] {"(", "~"}) {
            expression(times(opening, 20) + "r" + times(opening.equals("(") ? ")" : "", 20), 0, 0, -1);
            expression(times(opening, 21) + "r" + times(opening.equals("(") ? ")" : "", 21), 0, 6, 20);
        }
    }

    private static void whatStandsOpen() {
        of("from there to the end of what it has behind it");
        String nineteen = times("[", 19);
        String ended = times("]", 19);
        taken(nineteen + "true and true and true or true iff true iff true" + ended);
        formula(nineteen + "true implies true implies true" + ended, 6, 19 + 18);
        taken(nineteen + "p & p + p - p + p = p" + ended);
        formula(nineteen + "p + p & p = p" + ended, 6, 19 + 6);
        formula(nineteen + "p = p + p" + ended, 6, 19 + 6);
        taken(nineteen + "r . r . r ++ r = r" + ended);
        taken(nineteen + "~r . r = r" + ended);
        formula(nineteen + "r . ~r = r" + ended, 6, 19 + 4);
        taken(nineteen + "[true] and true" + ended);
        formula(nineteen + "true and [true]" + ended, 6, 19 + 9);
        formula(nineteen + "all x:p|true and true" + ended, 6, 19 + 13);
        formula(nineteen + "all x:p+p|true" + ended, 6, 19 + 7);
        formula(nineteen + "all x:p|x=p" + ended, 6, 19 + 9);
        formula(nineteen + "{x:p|x=p}=p" + ended, 6, 19 + 6);
        formula(nineteen + "not p=p" + ended, 6, 19 + 5);
        formula(nineteen + "some p+p" + ended, 6, 19 + 6);
        taken(nineteen + "(p)+p=p" + ended);
        formula(nineteen + "p+(p)=p" + ended, 6, 19 + 2);
        taken(nineteen + "not true and true" + ended);
        formula(nineteen + "not true and not true" + ended, 6, 19 + 13);
        // A token that can't stand there opens nothing.
        formula(times("[", 20) + "true not", 3, 25);
        formula(times("[", 20) + "p (", 3, 22);
    }

    private static void behindTheWhole() {
        of("7 something stands behind the whole");
        refused(7, "true `true");
        refused(7, "true   `foo");
        refused(7, "p = p `= p");
        refused(7, "some p `in p");
        refused(7, "# p = 1 `1");
        refused(7, "[true] `[true]");
        refused(7, "all x : p | true `]");
        refusedExpression(7, "p `p");
        refusedExpression(7, "p `= p");
        refusedExpression(7, "p `and");
        refusedExpression(7, "(p) `)");
        refusedExpression(7, "{x : p | true} `|");
    }

    private static void lookahead() {
        of("A word Q begins the line with NAME : if a NAME is behind it and : behind that, which is no :>");
        for (String word : new String[] {"some", "no", "lone", "one"}) {
            taken(word + " x : p | true");
            taken(word + " x:p|true");
            taken(word + " x  :  p | true");
            taken(word + " p : p | true");
            taken(word + " p");
            taken(word + " p :> p");
            taken(word + " p:>p");
            taken(word + " p and true");
            refused(4, word + " `x :> p");
            refused(4, word + " `x:>p");
            refused(3, word + " x : `> p | true");
            refused(3, word + " x :`:> p | true");
            refused(4, word + " `x");
            refused(4, word + " `x p : p | true");
            refused(2, word + " x:`");
            refused(2, word + " x :  `");
            refused(7, word + " univ `: p | true");
            refused(7, word + " (p) `: p | true");
            refused(7, word + " p + p `: p | true");
            refused(3, word + " `all : p | true");
            refused(3, word + " `: p | true");
            refused(3, word + " `1 : p | true");
            refused(1, word + " `abcdefg : p | true");
            refused(1, word + " `$ : p | true");
            taken(word + " abcdef : p | true");
            refused(1, word + " x : `$");
        }
        of("all always does");
        taken("all x : p | true");
        taken("all p : p | true");
        refused(3, "all x `:> p");
        refused(3, "all p `:> p");
        refused(3, "all `univ");
        refused(3, "all `(p)");
        refused(3, "all p `and true");
        refused(2, "all p`");
        refused(2, "all`");
    }

    private static void emptyTexts() {
        of("an empty text");
        for (int blanks : new int[] {0, 1, 7, 600}) {
            String text = times(" ", blanks);
            formula(text, 2, blanks);
            expression(text, 0, 2, blanks);
            Finder x = solved();
            due("holds", x.holds(text), -1 - blanks);
            due("the present one stays", x.told(5), 1);
            due("fact", x.fact(text), -1 - blanks);
            due("fault", x.fault(false), 2);
            due("place", x.fault(true), blanks);
            due("no fact", x.told(3), 0);
            due("no assertion", x.told(4), 0);
            due("the present one stays", x.told(5), 1);
        }
    }
}
