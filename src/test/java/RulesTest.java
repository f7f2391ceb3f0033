/** Promises 4, 5, 6, 11 and 12: literals, rules, forgetting, ways and strata. */
public final class RulesTest {
    private static final int A = 10;
    private static final int B = 11;
    private static final int C = 12;
    private static final int D = 13;
    private static final Due DUE = new Due("RulesTest");

    public static void main(String[] args) {
        literalsRefused();
        literalsOfArityOne();
        fourLiterals();
        ruleAnswersInOrder();
        safety();
        stratification();
        leastStrata();
        refusedRulesChangeNothing();
        numbersAreUsedAgain();
        forgetting();
        waysAreInstances();
        repeatedVariablesAndValues();
        negationOverStrata();
        allThatGrewIsFollowed();
        DUE.end();
    }

    private static ProgramFacts withRelations(int... arities) {
        ProgramFacts x = new ProgramFacts();
        for (int arity : arities) {
            x.relation(arity);
        }
        return x;
    }

    private static void literalsRefused() {
        ProgramFacts x = withRelations(2);
        for (int relation : new int[] {-1, 0, 8, 10, 14, Integer.MAX_VALUE, Integer.MIN_VALUE}) {
            DUE.is("a head of " + relation, x.literal(relation, A, B, false), -1);
        }
        DUE.is("a negated head", x.literal(9, A, B, true), -1);
        for (int term : new int[] {-1, 6, 7, 8, 9, 14, Integer.MAX_VALUE, Integer.MIN_VALUE}) {
            DUE.is("literal(9, " + term + ", A)", x.literal(9, term, A, false), -1);
            DUE.is("literal(9, A, " + term + ")", x.literal(9, A, term, false), -1);
        }
        DUE.is("none was given: rule()", x.rule(), -1);
        DUE.is("the head", x.literal(9, 0, 5, false), 1);
        DUE.is("a body of no relation", x.literal(10, A, B, false), -1);
        DUE.is("a body of relation -1", x.literal(-1, A, B, false), -1);
        DUE.is("a body with a wrong term", x.literal(0, A, 9, true), -1);
        DUE.is("a body of the library's", x.literal(0, A, D, true), 2);
    }

    private static void literalsOfArityOne() {
        ProgramFacts x = withRelations(1, 1, 2);
        x.fact(10, 2, 0, true);
        x.fact(10, 4, 0, true);
        DUE.is("b is no term: literal(9, A, 99)", x.literal(9, A, 99, false), 1);
        DUE.is("b is no variable: literal(10, A, D)", x.literal(10, A, D, false), 2);
        DUE.is("rule()", x.rule(), 6);
        DUE.is("size(9)", x.size(9), 2);
        DUE.is("ways(9, 4, 77)", x.ways(9, 4, 77), 1);
        DUE.is("a head with b a variable", x.literal(9, 3, B, false), 1);
        DUE.is("is safe: rule()", x.rule(), 7);
        DUE.is("holds(9, 3, 3)", x.holds(9, 3, 3), true);
        DUE.is("head of 11", x.literal(11, A, B, false), 1);
        DUE.is("its body", x.literal(10, A, B, false), 2);
        DUE.is("b of arity 1 binds nothing: rule()", x.rule(), -2);
        DUE.is("head of 9", x.literal(9, A, 0, false), 1);
        DUE.is("its body", x.literal(10, A, 0, false), 2);
        DUE.is("negated, b no variable", x.literal(10, 5, C, true), 3);
        DUE.is("is safe, too: rule()", x.rule(), 8);
        DUE.is("ways(9, 4, 0)", x.ways(9, 4, 0), 2);
    }

    private static void fourLiterals() {
        ProgramFacts x = withRelations(2);
        for (int k = 1; k <= 4; k++) {
            DUE.is("literal " + k, x.literal(9, A, B, false), k);
        }
        DUE.is("a fifth", x.literal(9, A, B, false), -1);
        DUE.is("rule() of four", x.rule(), 6);
        DUE.is("none given afterwards", x.literal(9, 1, 2, false), 1);
        DUE.is("rule() of one", x.rule(), 7);
        DUE.is("size(9)", x.size(9), 1);
        DUE.is("ways(9, 1, 2)", x.ways(9, 1, 2), 2);
    }

    private static void ruleAnswersInOrder() {
        ProgramFacts x = withRelations(2);
        x.literal(9, A, B, false);
        x.literal(9, C, D, true);
        DUE.is("unsafe and unstratified: rule()", x.rule(), -2);
        DUE.is("no literals afterwards: rule()", x.rule(), -1);
        for (int k = 0; k < 8; k++) {
            x.literal(9, k % 6, 0, false);
            DUE.is("rule " + k, x.rule(), 6 + k);
        }
        x.literal(9, A, B, false);
        DUE.is("a ninth, unsafe: rule()", x.rule(), -1);
        DUE.is("no literals after NONE", x.literal(9, 0, 0, false), 1);
        DUE.is("a ninth: rule()", x.rule(), -1);
        DUE.is("size(9)", x.size(9), 6);
    }

    private static void safety() {
        ProgramFacts x = withRelations(2, 1);
        DUE.is("unsafe head", make(x, 9, A, B, 0, A, A, 0), -2);
        DUE.is("unsafe head without body", make(x, 10, A, 0), -2);
        DUE.is("variable only in negated ones", make(x, 10, A, 0, 0, A, B, 0, 1, C, C, 1), -2);
        DUE.is("head's variable only in a negated one", make(x, 9, A, B, 0, A, A, 0, 1, A, B, 1), -2);
        DUE.is("unsafe head beside a bound negated one", make(x, 9, A, B, 0, A, A, 0, 1, A, A, 1), -2);
        DUE.is("each variable second: A", make(x, 9, 0, A), -2);
        DUE.is("each variable second: D", make(x, 9, 0, D), -2);
        DUE.is("negated first, bound later", make(x, 10, A, 0, 1, B, A, 1, 0, A, B, 0), 6);
        DUE.is("values need no binding", make(x, 9, 1, 2, 3, 4, 5, 1), 7);
        x.edit(0, 0, 3, 4);
        DUE.is("holds(10, 3, 0)", x.holds(10, 3, 0), true);
        x.edit(1, 1, 4, 3);
        DUE.is("holds(10, 3, 0) with COPY(4, 3)", x.holds(10, 3, 0), false);
        DUE.is("holds(9, 1, 2)", x.holds(9, 1, 2), true);
        x.edit(2, 3, 4, 5);
        DUE.is("holds(9, 1, 2) with STORE0(4, 5)", x.holds(9, 1, 2), false);
    }

    private static void stratification() {
        ProgramFacts x = withRelations(1, 1, 1);
        x.fact(9, 0, 0, true);
        DUE.is("10 if not 9", make(x, 10, A, 0, 0, A, B, 0, 9, A, 0, 1), 6);
        DUE.is("11 if 10", make(x, 11, A, 0, 10, A, 0, 0), 7);
        DUE.is("9 if 11 closes a negative ring", make(x, 9, A, 0, 11, A, 0, 0), -3);
        DUE.is("10 if 11 closes a positive ring", make(x, 10, A, 0, 11, A, 0, 0), 8);
        DUE.is("10 if not 11 closes a negative one", make(x, 10, A, 0, 9, A, 0, 0, 11, A, 0, 1), -3);
        DUE.is("stratum(9)", x.stratum(9), 0);
        DUE.is("stratum(10)", x.stratum(10), 1);
        DUE.is("stratum(11)", x.stratum(11), 1);
        x.forget(6);
        DUE.is("stratum(10) after forget", x.stratum(10), 0);
        DUE.is("9 if 11 is well now", make(x, 9, A, 0, 11, A, 0, 0), 6);
        DUE.is("stratum(14)", x.stratum(14), -1);
        DUE.is("stratum(12)", x.stratum(12), -1);
        DUE.is("stratum(-1)", x.stratum(-1), -1);
        DUE.is("stratum(6)", x.stratum(6), 0);
    }

    private static void leastStrata() {
        ProgramFacts x = withRelations(1, 1, 1, 1, 1);
        // The highest first, so that each later rule has to raise all before it.
        for (int head = 13; head > 9; head--) {
            DUE.is(head + " if not " + (head - 1), make(x, head, 1, 0, head - 1, 1, 0, 1), 19 - head);
        }
        DUE.is("9 if not POINTS", make(x, 9, 1, 0, 6, 1, 1, 1), 10);
        for (int relation = 9; relation < 14; relation++) {
            DUE.is("stratum(" + relation + ")", x.stratum(relation), relation - 8);
            DUE.is("holds(" + relation + ", 1, 0)", x.holds(relation, 1, 0), relation % 2 == 1);
        }
        DUE.is("POINTS(1, 1): edit", x.edit(0, 0, 1, 1), 1);
        DUE.is("changes()", x.changes(), 7);
        DUE.is("9 if not 13", make(x, 9, 1, 0, 13, 1, 0, 1), -3);
        DUE.is("9 if 13", make(x, 9, 1, 0, 13, 1, 0, 0), -3);
    }

    private static void refusedRulesChangeNothing() {
        ProgramFacts x = withRelations(2, 2);
        x.fact(9, 0, 1, true);
        DUE.is("10 if 9", make(x, 10, A, B, 9, A, B, 0), 6);
        DUE.is("changes()", x.changes(), 1);
        DUE.is("9 if not 10", make(x, 9, A, B, 9, A, B, 0, 10, A, B, 1), -3);
        DUE.is("changes() after UNSTRATIFIED", x.changes(), 1);
        DUE.is("10 unsafe", make(x, 10, A, C, 9, A, B, 0), -2);
        DUE.is("changes() after UNSAFE", x.changes(), 1);
        DUE.is("rule() of none", x.rule(), -1);
        DUE.is("forget(7)", x.forget(7), false);
        DUE.is("changes() after NONE", x.changes(), 1);
        DUE.is("stratum(9)", x.stratum(9), 0);
        DUE.is("ways(9, 0, 1)", x.ways(9, 0, 1), 1);
        DUE.is("a rule that adds nothing", make(x, 10, B, A, 9, B, A, 0), 7);
        DUE.is("changes() after it", x.changes(), 0);
        DUE.is("ways(10, 0, 1)", x.ways(10, 0, 1), 2);
    }

    private static void numbersAreUsedAgain() {
        ProgramFacts x = withRelations(1);
        for (int k = 0; k < 5; k++) {
            make(x, 9, k, 0);
        }
        DUE.is("forget(9)", x.forget(9), true);
        DUE.is("forget(7)", x.forget(7), true);
        x.literal(9, 5, 0, false);
        DUE.is("forget leaves the literals", x.forget(10), true);
        DUE.is("rule()", x.rule(), 7);
        DUE.is("next", make(x, 9, 5, 0), 9);
        DUE.is("next", make(x, 9, 5, 0), 10);
        DUE.is("next", make(x, 9, 5, 0), 11);
        DUE.is("ways(9, 5, 0)", x.ways(9, 5, 0), 4);
        DUE.is("ways(9, 1, 0)", x.ways(9, 1, 0), 0);
    }

    private static void forgetting() {
        ProgramFacts x = withRelations(2);
        for (int rule : new int[] {-1, 0, 5, 6, 13, 14, Integer.MAX_VALUE, Integer.MIN_VALUE}) {
            DUE.is("forget(" + rule + ")", x.forget(rule), false);
        }
        make(x, 9, A, B, 6, A, B, 0);
        make(x, 9, A, C, 9, A, B, 0, 9, B, C, 0);
        x.edit(0, 0, 0, 1);
        x.edit(1, 0, 1, 2);
        DUE.is("size(9)", x.size(9), 3);
        DUE.is("forget(6)", x.forget(6), true);
        // What upheld itself only by the other rule must go, too.
        DUE.is("size(9) after", x.size(9), 0);
        DUE.is("changes()", x.changes(), 3);
        DUE.is("forget(6) again", x.forget(6), false);
        DUE.is("changes() still", x.changes(), 3);
        DUE.is("forget(7)", x.forget(7), true);
        DUE.is("changes() of none", x.changes(), 0);
    }

    private static void waysAreInstances() {
        ProgramFacts x = withRelations(2, 1);
        for (int b = 0; b < 6; b++) {
            x.fact(9, 0, b, true);
            x.fact(9, b, 3, true);
        }
        DUE.is("10 if 9", make(x, 10, A, 0, 9, A, B, 0), 6);
        DUE.is("ways(10, 0, 0)", x.ways(10, 0, 0), 6);
        DUE.is("ways(10, 1, 0)", x.ways(10, 1, 0), 1);
        DUE.is("10 if 9, 9, 9", make(x, 10, A, 0, 9, A, B, 0, 9, A, C, 0, 9, A, D, 0), 7);
        DUE.is("ways(10, 0, 0) with both", x.ways(10, 0, 0), 6 + 216);
        DUE.is("ways(10, 1, 0) with both", x.ways(10, 1, 0), 2);
        x.fact(10, 1, 0, true);
        DUE.is("ways(10, 1, 0) as a fact, too", x.ways(10, 1, 0), 3);
        DUE.is("the same literal twice", make(x, 10, A, 0, 9, A, B, 0, 9, A, B, 0), 8);
        DUE.is("is one instance each", x.ways(10, 0, 0), 6 + 216 + 6);
        DUE.is("ways(9, 0, 3)", x.ways(9, 0, 3), 1);
        DUE.is("ways(9, 1, 1)", x.ways(9, 1, 1), 0);
        for (int value : new int[] {-1, 6, Integer.MAX_VALUE, Integer.MIN_VALUE}) {
            DUE.is("ways(9, " + value + ", 0)", x.ways(9, value, 0), -1);
            DUE.is("ways(9, 0, " + value + ")", x.ways(9, 0, value), -1);
            DUE.is("ways(10, " + value + ", 0)", x.ways(10, value, 0), -1);
            DUE.is("ways(10, 2, " + value + ")", x.ways(10, 2, value), 3);
        }
        DUE.is("ways(11, 0, 0)", x.ways(11, 0, 0), -1);
        DUE.is("ways(-1, 0, 0)", x.ways(-1, 0, 0), -1);
        DUE.is("the largest number", make(x, 10, 4, 0, 9, 0, A, 0, 9, 0, B, 0, 9, C, 3, 0), 9);
        DUE.is("ways(10, 4, 0)", x.ways(10, 4, 0), 1 + 1 + 1 + 216);
    }

    private static void repeatedVariablesAndValues() {
        ProgramFacts x = withRelations(2, 2);
        x.fact(9, 1, 1, true);
        x.fact(9, 1, 2, true);
        x.fact(9, 4, 4, true);
        DUE.is("10(A, A) if 9(A, A)", make(x, 10, A, A, 9, A, A, 0), 6);
        DUE.is("size(10)", x.size(10), 2);
        DUE.is("ways(10, 1, 2)", x.ways(10, 1, 2), 0);
        DUE.is("10(5, B) if 9(1, B)", make(x, 10, 5, B, 9, 1, B, 0), 7);
        DUE.is("tuple(10, 2)", x.tuple(10, 2), 51);
        DUE.is("tuple(10, 3)", x.tuple(10, 3), 52);
        DUE.is("10(B, A) if 9(A, B)", make(x, 10, B, A, 9, A, B, 0), 8);
        DUE.is("holds(10, 2, 1)", x.holds(10, 2, 1), true);
        DUE.is("holds(10, 1, 2)", x.holds(10, 1, 2), false);
        DUE.is("ways(10, 4, 4)", x.ways(10, 4, 4), 2);
    }

    private static void negationOverStrata() {
        ProgramFacts x = withRelations(2, 2, 1, 1);
        make(x, 10, A, B, 9, A, B, 0);
        make(x, 10, A, C, 9, A, B, 0, 10, B, C, 0);
        make(x, 11, A, 0, 9, A, B, 0, 10, B, A, 1);
        make(x, 12, A, 0, 9, A, B, 0, 11, A, 0, 1);
        for (int a = 0; a < 5; a++) {
            x.fact(9, a, a + 1, true);
        }
        DUE.is("size(10) of a chain", x.size(10), 15);
        DUE.is("size(11) of a chain", x.size(11), 5);
        DUE.is("size(12) of a chain", x.size(12), 0);
        x.fact(9, 5, 0, true);
        DUE.is("size(10) of a ring", x.size(10), 36);
        DUE.is("size(11) of a ring", x.size(11), 0);
        DUE.is("size(12) of a ring", x.size(12), 6);
        DUE.is("changes()", x.changes(), 1 + 21 + 5 + 6);
        x.fact(9, 2, 3, false);
        DUE.is("size(10) of a chain again", x.size(10), 15);
        DUE.is("size(12) of a chain again", x.size(12), 0);
        DUE.is("changes() again", x.changes(), 1 + 21 + 5 + 6);
    }

    private static void allThatGrewIsFollowed() {
        ProgramFacts x = withRelations(1, 1, 1, 1, 1);
        // The rules that read what grows come before those that make it grow.
        make(x, 12, A, 0, 10, A, 0, 0);
        make(x, 13, A, 0, 11, A, 0, 0);
        make(x, 10, A, 0, 9, A, 0, 0);
        make(x, 11, A, 0, 9, A, 0, 0);
        x.fact(9, 0, 0, true);
        for (int relation = 9; relation < 14; relation++) {
            DUE.is("size(" + relation + ")", x.size(relation), 1);
        }
        DUE.is("changes()", x.changes(), 5);
    }

    /** Gives a head and then the body, each literal as relation, two terms and 1 if negated. */
    private static int make(ProgramFacts x, int head, int a, int b, int... body) {
        x.literal(head, a, b, false);
        for (int k = 0; k < body.length; k += 4) {
            x.literal(body[k], body[k + 1], body[k + 2], body[k + 3] == 1);
        }
        return x.rule();
    }
}
