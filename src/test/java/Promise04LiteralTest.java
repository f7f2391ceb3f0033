/** Promise 4: literal. */
public final class Promise04LiteralTest {
    private static final int A = Make.A;
    private static final int B = Make.B;
    private static final int C = Make.C;
    private static final int D = Make.D;
    private static final Due DUE = new Due("Promise04LiteralTest");

    public static void main(String[] args) {
        headThenBody();
        howMany();
        secondOfArityOne();
        whenFourAreGiven();
        noSuchRelation();
        wrongTerms();
        allTerms();
        firstNegated();
        firstNotOfTheUsers();
        refusedFirstOneLeavesTheFirst();
        DUE.end();
    }

    private static void headThenBody() {
        DUE.sentence("Gives a literal for the next rule: first its head, then its body");
        ProgramFacts x = Make.withRelations(2, 2, 1);
        x.fact(10, 3, 4, true);
        x.literal(9, B, A, false);
        x.literal(10, A, B, false);
        x.literal(11, A, 0, true);
        DUE.is("not before rule(): size(9)", x.size(9), 0);
        DUE.is("rule()", x.rule(), 6);
        DUE.is("tuple(9, 0)", x.tuple(9, 0), 43);
        DUE.is("size(9)", x.size(9), 1);
        DUE.is("size(10)", x.size(10), 1);
        x.fact(11, 3, 0, true);
        DUE.is("size(9) against the negated one", x.size(9), 0);
    }

    private static void howMany() {
        DUE.sentence("Answers how many are given");
        ProgramFacts x = Make.withRelations(2, 1);
        DUE.is("the head", x.literal(10, 0, 0, false), 1);
        DUE.is("the first of the body", x.literal(0, A, B, false), 2);
        DUE.is("the second, negated", x.literal(10, 5, 0, true), 3);
        DUE.is("the third", x.literal(9, C, D, false), 4);
        x.rule();
        DUE.is("the next head", x.literal(9, 0, 0, false), 1);
        DUE.is("the same one again is one more", x.literal(9, 0, 0, false), 2);
    }

    private static void secondOfArityOne() {
        DUE.sentence("(b is looked at only if the arity is 2.)");
        for (int b : Wrong.outside(0, 5)) {
            ProgramFacts x = Make.withRelations(1, 1);
            x.fact(10, 5, 0, true);
            DUE.is("head: literal(9, A, " + b + ")", x.literal(9, A, b, false), 1);
            DUE.is("body: literal(10, A, " + b + ")", x.literal(10, A, b, false), 2);
            DUE.is("negated: literal(10, 4, " + b + ")", x.literal(10, 4, b, true), 3);
            // Were b a variable, the head's would be unsafe, or the body would have to give it a value.
            DUE.is("rule()", x.rule(), 6);
            DUE.is("tuple(9, 0)", x.tuple(9, 0), 5);
            DUE.is("size(9)", x.size(9), 1);
            DUE.is("ways(9, 5, 0)", x.ways(9, 5, 0), 1);
        }
        ProgramFacts x = Make.withRelations(1, 2);
        x.literal(10, A, B, false);
        x.literal(9, A, B, false);
        DUE.is("b of arity 1 gives a variable no value: rule()", x.rule(), -2);
    }

    private static void whenFourAreGiven() {
        DUE.sentence("NONE when four are given");
        ProgramFacts x = Make.withRelations(2, 2);
        x.fact(10, 1, 2, true);
        x.fact(10, 2, 3, true);
        x.fact(10, 3, 4, true);
        Make.give(x, 9, A, D, 10, A, B, 0, 10, B, C, 0, 10, C, D, 0);
        for (int k = 0; k < 3; k++) {
            DUE.is("a fifth", x.literal(10, D, A, false), -1);
            DUE.is("a fifth, negated", x.literal(10, A, B, true), -1);
            DUE.is("a fifth, wrong", x.literal(14, 9, 9, true), -1);
        }
        DUE.is("rule() of the four", x.rule(), 6);
        DUE.is("tuple(9, 0)", x.tuple(9, 0), 14);
        DUE.is("size(9)", x.size(9), 1);
        DUE.is("the next one is the first", x.literal(9, 0, 0, false), 1);
    }

    private static void noSuchRelation() {
        DUE.sentence("NONE when [..] there is no such relation");
        for (int count = 1; count <= 5; count++) {
            ProgramFacts x = Make.withRelations(new int[] {2, 1, 2, 1, 2}, count);
            for (int relation : Wrong.outside(0, 8 + count)) {
                DUE.is("head: literal(" + relation + ", 0, 0)", x.literal(relation, 0, 0, false), -1);
            }
            DUE.is("no head was given: literal(9, 0, 0)", x.literal(9, 0, 0, false), 1);
            for (int relation : Wrong.outside(0, 8 + count)) {
                DUE.is("body: literal(" + relation + ", 0, 0)", x.literal(relation, 0, 0, false), -1);
                DUE.is("negated: literal(" + relation + ", 0, 0)", x.literal(relation, 0, 0, true), -1);
            }
            for (int relation = 9 + count; relation < 14; relation++) {
                DUE.is("not made yet: literal(" + relation + ", 0, 0)", x.literal(relation, 0, 0, false), -1);
            }
            DUE.is("only the head was given: literal(0, 0, 0)", x.literal(0, 0, 0, false), 2);
        }
    }

    private static void wrongTerms() {
        DUE.sentence("NONE when [..] a term is not 0 .. 5 or 10 .. 13");
        ProgramFacts x = Make.withRelations(2, 1);
        refuseTerms(x, 9, false);
        refuseTerms(x, 10, false);
        DUE.is("no head was given", x.literal(9, 0, 0, false), 1);
        refuseTerms(x, 9, false);
        refuseTerms(x, 10, true);
        refuseTerms(x, Make.NEW, true);
        refuseTerms(x, Make.HEAP1, false);
        DUE.is("only the head was given", x.literal(9, 0, 0, false), 2);
    }

    private static void refuseTerms(ProgramFacts x, int relation, boolean negated) {
        int[] wrong = {6, 7, 8, 9, 14, 15, -1, -2, 26, 42, 74, 266, Integer.MAX_VALUE, Integer.MIN_VALUE,
            Integer.MIN_VALUE + 10, 65546};
        for (int term : wrong) {
            String call = "literal(" + relation + ", ";
            DUE.is(call + term + ", 0)", x.literal(relation, term, 0, negated), -1);
            DUE.is(call + term + ", A)", x.literal(relation, term, A, negated), -1);
            if (relation != 10) {
                DUE.is(call + "0, " + term + ")", x.literal(relation, 0, term, negated), -1);
                DUE.is(call + "A, " + term + ")", x.literal(relation, A, term, negated), -1);
            }
        }
    }

    private static void allTerms() {
        DUE.sentence("a term is a value or one of the variables A, B, C, D of the rule (written 10, 11, 12, 13)");
        int[] terms = {0, 1, 2, 3, 4, 5, A, B, C, D};
        for (int a : terms) {
            for (int b : terms) {
                ProgramFacts x = Make.withRelations(2, 2);
                String call = "literal(9, " + a + ", " + b + ")";
                DUE.is("head: " + call, x.literal(9, a, b, false), 1);
                DUE.is("body: " + call, x.literal(10, a, b, false), 2);
                DUE.is("negated: " + call, x.literal(0, a, b, true), 3);
                DUE.is("library's: " + call, x.literal(8, a, b, false), 4);
                DUE.is("rule()", x.rule(), 6);
            }
        }
        for (int term : terms) {
            ProgramFacts x = Make.withRelations(1);
            DUE.is("literal(9, " + term + ", 6)", x.literal(9, term, 6, false), 1);
            DUE.is("body: literal(9, " + term + ", 6)", x.literal(9, term, 6, false), 2);
        }
    }

    private static void firstNegated() {
        DUE.sentence("NONE when [..] it is the first one and negated");
        ProgramFacts x = Make.withRelations(2, 1);
        DUE.is("literal(9, 0, 0, true)", x.literal(9, 0, 0, true), -1);
        DUE.is("literal(10, 0, 0, true)", x.literal(10, 0, 0, true), -1);
        DUE.is("literal(9, 0, 0, false)", x.literal(9, 0, 0, false), 1);
        for (int k = 2; k <= 4; k++) {
            DUE.is("the others may be: literal(9, 0, 0, true)", x.literal(10, k, 0, true), k);
        }
        x.rule();
        DUE.is("the next first one", x.literal(9, 0, 0, true), -1);
    }

    private static void firstNotOfTheUsers() {
        DUE.sentence("NONE when [..] it is the first one and [..] not of a user's relation");
        for (int relation = 0; relation < 9; relation++) {
            ProgramFacts x = Make.withRelations(2);
            String call = "literal(" + relation + ", 0, 0, ";
            DUE.is("first: " + call + "false)", x.literal(relation, 0, 0, false), -1);
            DUE.is("first: " + call + "true)", x.literal(relation, 0, 0, true), -1);
            DUE.is("literal(9, 0, 0, false)", x.literal(9, 0, 0, false), 1);
            DUE.is("second: " + call + "false)", x.literal(relation, 0, 0, false), 2);
            DUE.is("third: " + call + "true)", x.literal(relation, 0, 0, true), 3);
        }
        for (int relation = 9; relation < 14; relation++) {
            ProgramFacts x = Make.withRelations(1, 2, 1, 2, 1);
            DUE.is("first: literal(" + relation + ", 0, 0)", x.literal(relation, 0, 0, false), 1);
        }
    }

    private static void refusedFirstOneLeavesTheFirst() {
        DUE.sentence("NONE [.. and the literal is not given]");
        ProgramFacts x = Make.withRelations(2);
        x.literal(9, 0, 0, true);
        x.literal(0, 0, 0, false);
        x.literal(9, 6, 0, false);
        x.literal(10, 0, 0, false);
        DUE.is("rule() after refused ones alone", x.rule(), -1);
        DUE.is("still the first, of the library's", x.literal(6, 0, 0, false), -1);
        DUE.is("still the first, negated", x.literal(9, 0, 0, true), -1);
        x.literal(9, 1, 2, false);
        x.literal(9, 3, 9, false);
        x.literal(10, 3, 3, false);
        DUE.is("rule() of the head alone", x.rule(), 6);
        DUE.is("holds(9, 1, 2)", x.holds(9, 1, 2), true);
    }
}
