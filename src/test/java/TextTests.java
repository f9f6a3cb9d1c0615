/** Texts and the FAULT and place that the document gives them; 0 and NONE for those it takes. */
public final class TextTests extends TextChecks {
    public static void main(String[] args) {
        tokens();
        ends();
        places();
        names();
        arities();
        whichFirst();
        limits();
        behind();
        expressions();
        binding();
        end("all texts are read as due");
    }

    private static void tokens() {
        taken("true");
        taken(" \0\t\n\u001f true ");
        refused(1, "`\u0021");
        refused(1, "`\u007f");
        refused(1, "`\u0080");
        refused(1, "true `\u00ff");
        refused(1, "`True");
        refused(4, "`truE");
        refused(1, "true`E");
        refused(1, "`abcdefg = p");
        refused(1, "`impliess");
        refused(1, "true `impliesx true");
        refused(1, "`trueimplies");
        refused(1, "`" + times("a", 600));
        refused(1, "true or `xxxxxxxxfalse");
        refused(1, "true or `xxxxxxximplies true");
        refused(1, "# p = `1234");
        refused(1, "# p = `0000");
        taken("# p = 123");
        taken("#p=1and#p<2or#p>3");
        taken("not[true]and[false]");
        taken("p->p=r");
        taken("p in p&p");
        taken("r++r=r");
        taken("p<:r=r:>p");
        refused(3, "p `< : r = r");
        refused(3, "r + `+ r = r");
        refused(3, "p - `> p = r");
        taken("all x:p|x in x");
        refused(3, "all x `:> p | true");
        refused(1, "`_");
        refused(1, "p `\" = p");
    }

    private static void ends() {
        refused(2, "`");
        refused(2, "  `");
        refused(2, "not`");
        refused(2, "true and`");
        refused(2, "true and  `");
        refused(2, "[true`");
        refused(2, "p`");
        refused(2, "p =`");
        refused(2, "p +`");
        refused(2, "(p`");
        refused(2, "(p) `");
        refused(2, "some`");
        refused(2, "some x :`");
        refused(2, "all`");
        refused(2, "all x`");
        refused(2, "all x :`");
        refused(2, "all x : p`");
        refused(2, "all x : p |`");
        refused(2, "all x : p | x`");
        refused(2, "#`");
        refused(2, "# p`");
        refused(2, "# p =`");
        refused(2, "{`");
        refused(2, "{ x : p | true`");
        refused(2, "{ x : p | true } `");
        refused(2, "~`");
    }

    private static void places() {
        refused(3, "`and true");
        refused(3, "true and `or");
        refused(3, "`)");
        refused(3, "`=");
        refused(3, "`1");
        refused(3, "`:");
        refused(3, "p `p");
        refused(3, "p `true");
        refused(3, "p `and true");
        refused(3, "p `)");
        refused(3, "p `< 3");
        refused(3, "p = `true");
        refused(3, "p = `not true");
        refused(3, "p = `3");
        refused(3, "p + `=");
        refused(3, "[true `)");
        refused(3, "[true `true");
        refused(3, "[p `]");
        refused(3, "[true `= p]");
        refused(3, "[some p `in p]");
        refused(3, "[p in p `in p]");
        refused(3, "(p `= p)");
        refused(3, "(`true)");
        refused(3, "(p `]");
        refused(3, "(p `and true)");
        refused(3, "some `true");
        refused(3, "some `[");
        refused(3, "some `not");
        refused(3, "some `some p");
        refused(3, "all `3");
        refused(3, "all `univ : p | true");
        refused(3, "all `all");
        refused(3, "all x `p : p | true");
        refused(3, "all x : `| true");
        refused(3, "all x : p `: true");
        refused(3, "all x : p `true");
        refused(3, "all x : p | `| true");
        refused(3, "# p `3");
        refused(3, "# p `in p");
        refused(3, "# p = `p");
        refused(3, "# p < `# p");
        refused(3, "# p = `(1)");
        refused(3, "{`(p");
        refused(3, "{ x `| true } = p");
        refused(3, "{ x : p | true `) = p");
        refused(3, "{ x : p | true `] = p");
        refused(3, "{ x : p `} = p");
        refused(3, "`] true");
        refused(3, "~`true");
        refused(3, "~`# p");
        refused(3, "not `and");
    }

    private static void names() {
        refused(4, "`foo = p");
        refused(4, "`foo $");
        refused(4, "`foo");
        refused(4, "p = p and `a = a");
        refused(4, "all x : p | `y = x");
        refused(4, "all x : `x | x = x");
        refused(4, "all x : p | [some y : x | y = x] and `y = x");
        refused(4, "{x : p | true} = `x");
        refused(4, "some `x $");
        refused(4, "some `x :> p");
        refused(4, "some `x");
        refused(2, "some x:`");
        refused(4, "some `x:> p");
        refused(2, "some x:`");
        refused(4, "some `abcdef :> p");
        taken("some abcdef : p | abcdef = p");
        refused(1, "some `abcdefg : p | true");
        refused(3, "some `: p | true");
        taken("all x : p | x = x");
        taken("all p : p | p = p");
        taken("all x : p | all x : x | x = x");
        taken("ab = p");
        taken("some ab : p | ab = ab");
        taken("some ab :> p");
        taken("{x : p | x = x} = p");
        taken("all x : p | {y : x | y = x} = x");
        refused(3, "all x : p | true and `: x");
    }

    private static void arities() {
        refused(5, "p `+ r = p");
        refused(5, "r `- p = p");
        refused(5, "r `& t = r");
        refused(5, "p `in r");
        refused(5, "r `= t");
        refused(5, "r `-> r = r");
        refused(5, "t `-> p = t");
        refused(5, "p -> p -> p `-> p = p");
        refused(5, "p `. p = p");
        refused(5, "t `. t = p");
        refused(5, "r `++ p = r");
        refused(5, "p `++ p = p");
        refused(5, "t `++ t = t");
        refused(5, "r `<: r = r");
        refused(5, "r `:> r = r");
        refused(5, "`~p = p");
        refused(5, "`^t = t");
        refused(5, "`*p = r");
        refused(5, "not `~p = p");
        refused(5, "`all x : r | true");
        refused(5, "`some x : r | true");
        refused(5, "true and `no x : t | true");
        refused(5, "`{x : r | true} = p");
        refused(5, "none `= r");
        refused(5, "univ `= iden");
        taken("p <: t = t :> p");
        taken("p <: p = p :> p");
        taken("t . r = r . t");
        taken("t . p = p . t");
        taken("p . r = r . p");
        taken("p -> r = r -> p");
        taken("none = univ and ~iden = iden");
        taken("some t and # t = 3 and lone r");
    }

    private static void whichFirst() {
        refused(5, "`~p");
        refused(5, "`~p . p = p");
        refused(5, "p `. p . p = p");
        refused(5, "r . `~p = p");
        refused(5, "p `. p + r = p");
        refused(5, "p + r `& p = p");
        refused(5, "(p `. p");
        refused(5, "(p `. p ]");
        refused(5, "p `. p true");
        refused(5, "p `+ r true");
        refused(5, "p `in r )");
        refused(5, "p `in r and");
        refused(5, "p `in r in p");
        refused(1, "p . p `$");
        refused(1, "~p `$");
        refused(1, "~(p) `$");
        refused(1, "p in r `1234");
        refused(1, "all x : r `$");
        refused(5, "`all x : r true");
        refused(5, "`all x : r");
        refused(5, "`all x : r | $");
        refused(5, "`{x : r | foo} = p");
        refused(5, "`{x : r } = p");
        refused(5, "all x : p `. p | true");
        refused(5, "all x : p `. p true");
        refused(3, "all x : (r `true");
        refused(5, "some p `. p and true");
        refused(3, "all x : (p `true");
        refused(4, "p + `foo");
        refused(5, "p `. p + foo");
        refused(4, "p . `foo = r");
        refused(5, "p = p -> p -> p `-> p and");
        taken("p <: iden = iden :> p");
    }

    private static void limits() {
        taken("not " + times("p+", 98) + "p=p");
        formula("not not " + times("p+", 98) + "p=p", 6, 8 + 198);
        formula("not not " + times("p+", 98) + "p=$", 1, 8 + 198);
        formula("not not " + times("p+", 98) + "p=)", 6, 8 + 198);
        formula("not " + times("p+", 98) + "p=p)", 6, 4 + 199);
        formula("not " + times("p+", 98) + "p=r)", 6, 4 + 199);
        formula("not " + times("p+", 98) + "p=r  ", 5, 4 + 197);
        formula("not " + times("p+", 98) + "p=  ", 2, 4 + 200);
        formula(times("[", 20) + "true" + times("]", 20), 0, -1);
        formula(times("[", 21) + "true" + times("]", 21), 6, 20);
        formula(times("not ", 20) + "true", 0, -1);
        formula(times("not ", 21) + "true", 6, 80);
        formula(times("not ", 19) + "p=p", 0, -1);
        formula(times("not ", 20) + "p=p", 6, 81);
        formula(times("not ", 20) + "some p", 6, 80);
        formula(times("not ", 20) + "all x:p|true", 6, 80);
        formula(times("not ", 19) + "all x:p|true", 0, -1);
        formula(times("not ", 19) + "all x:p|true or true", 6, 76 + 13);
        formula(times("not ", 20) + "true and true", 0, -1);
        formula(times("not ", 20) + "#p=1", 6, 80);
        formula(times("not ", 19) + "#p=1", 0, -1);
        formula(times("not ", 19) + "#p+p=1", 6, 78);
        formula(times("(", 20) + "p" + times(")", 20) + "=p", 0, -1);
        formula(times("(", 21) + "p" + times(")", 21) + "=p", 6, 20);
        formula(times("~", 20) + "r=r", 0, -1);
        formula(times("~", 21) + "r=r", 6, 20);
        formula(times("true implies ", 20) + "true", 0, -1);
        formula(times("true implies ", 21) + "true", 6, 20 * 13 + 5);
        formula(times("true iff ", 60) + "true", 0, -1);
        formula(times("p+", 90) + "p=p", 0, -1);
        formula(times("all x:p|", 20) + "true", 0, -1);
        formula(times("all x:p|", 21) + "true", 6, 160);
        formula(times("p+(", 10) + "p" + times(")", 10) + "=p", 0, -1);
        formula(times("p+(", 10) + "p+p" + times(")", 10) + "=p", 6, 31);
        formula(times("p={x:p|", 10) + "true" + times("}", 10), 0, -1);
        formula(times("p={x:p|", 10) + "p=p" + times("}", 10), 6, 71);
        formula(times("[", 10) + "true" + times("]", 10) + times(" and not not true", 5), 0, -1);
        // What ended no longer stands open when the next thing opens.
        formula(times("not ", 18) + "r.r+r=r", 0, -1);
        formula(times("not ", 19) + "r=r.r", 6, 79);
    }

    private static void behind() {
        refused(7, "true `true");
        refused(7, "true `)");
        refused(7, "true `]");
        refused(7, "[true] `]");
        refused(7, "true `foo");
        refused(7, "true `not true");
        refused(7, "true `= p");
        refused(7, "true `+ p");
        refused(7, "p = p `p");
        refused(7, "p = p `= p");
        refused(7, "p = p `in p");
        refused(7, "p = p `)");
        refused(7, "p = p `: p");
        refused(7, "some p `in p");
        refused(7, "not some p `= p");
        refused(7, "some p `p");
        refused(7, "some p + p `: p | true");
        refused(7, "some univ `: p | true");
        refused(7, "# p = 1 `2");
        refused(7, "# p = 1 `= p");
        refused(7, "# p = 1 `+ p");
        refused(7, "all x : p | true `|");
        refused(7, "all x : p | true `}");
        refused(1, "true `$");
        taken("p = p and p = p");
    }

    private static void expressions() {
        expression("univ", 2, 0, -1);
        expression(" (univ) ", 2, 0, -1);
        refusedExpression(2, "`");
        refusedExpression(2, "univ + `");
        refusedExpression(3, "`true");
        refusedExpression(3, "`not");
        refusedExpression(3, "`[");
        refusedExpression(3, "`some p");
        refusedExpression(3, "`#");
        refusedExpression(4, "`foo");
        refusedExpression(5, "p `. p");
        refusedExpression(5, "p `. p = p");
        refusedExpression(7, "p `= p");
        refusedExpression(7, "p `in p");
        refusedExpression(7, "p `and true");
        refusedExpression(7, "p `)");
        refusedExpression(7, "p `< 3");
        refusedExpression(7, "p `p");
        refusedExpression(7, "{x : p | true} `}");
        refusedExpression(3, "{x : p | `}");
        refusedExpression(3, "{x : p | x `}");
        expression(times("(", 20) + "univ" + times(")", 20), 2, 0, -1);
        expression(times("(", 21) + "univ" + times(")", 21), 0, 6, 20);
        expression(times("univ+", 99) + "univ", 2, 0, -1);
        expression(times("univ+", 100) + "univ", 0, 6, 500);
    }

    /** Each of these is another thing if it is read with other bonds. */
    private static void binding() {
        holds("true or true iff false", 0);
        holds("false iff false implies false", 0);
        holds("false implies false implies false", 1);
        holds("true implies false or true", 1);
        holds("true or false and false", 1);
        holds("not true or true", 1);
        holds("not false and false", 0);
        holds("not p = univ", 1);
        holds("not some p and false", 0);
        holds("all x : univ | true and false or true", 1);
        holds("false and all x : univ | true or true", 0);
        holds("false and [all x : univ | true] or true", 1);
        holds("not all x : none | false and false", 0);
        holds("univ - univ + univ = univ", 1);
        holds("univ + univ & none = univ", 1);
        holds("univ -> univ & none -> none = none -> none", 1);
        refused(5, "p -> p `++ r = r");
        refused(5, "r `++ r . p = p");
        refused(5, "r `& p -> r = p");
        holds("# univ + none = 2", 1);
        holds("some none + univ", 1);
        holds("no none -> univ", 1);
        holds("no univ -> none <: iden", 1);
        holds("one x : univ | one y : univ | x = y", 0);
        holds("all x : univ | one y : univ | x = y", 1);
        holds("lone x : univ | no y : univ | not y = x", 1);
    }
}
