/** Promise 5: rule. */
public final class Promise05RuleTest {
    private static final int A = Make.A;
    private static final int B = Make.B;
    private static final int C = Make.C;
    private static final int D = Make.D;
    private static final int UNSAFE = Make.UNSAFE;
    private static final int UNSTRATIFIED = Make.UNSTRATIFIED;
    private static final Due DUE = new Due("Promise05RuleTest");

    public static void main(String[] args) {
        ofTheLiteralsGiven();
        numbers();
        leastFreeNumber();
        whenNoneAreGiven();
        whenThereAreEight();
        unsafe();
        safe();
        unstratified();
        stratified();
        noLiteralsAfterwards();
        whereSeveralFit();
        refusedOnesAreNotThere();
        DUE.end();
    }

    private static void ofTheLiteralsGiven() {
        DUE.sentence("A rule has a HEAD, a positive literal, and a BODY of 0 to 3 literals");
        ProgramFacts x = Make.withRelations(1, 1, 1, 1);
        DUE.is("a body of none", Make.rule(x, 9, 0, 0), 6);
        DUE.is("a body of one", Make.rule(x, 9, 1, 0, 10, 0, 0, 0), 7);
        DUE.is("a body of two", Make.rule(x, 9, 2, 0, 10, 0, 0, 0, 11, 0, 0, 0), 8);
        DUE.is("a body of three", Make.rule(x, 9, 3, 0, 10, 0, 0, 0, 11, 0, 0, 0, 12, 0, 0, 0), 9);
        DUE.is("one holds: size(9)", x.size(9), 1);
        for (int k = 0; k < 3; k++) {
            x.fact(10 + k, 0, 0, true);
            DUE.is("holds(9, " + (k + 1) + ", 0)", x.holds(9, k + 1, 0), true);
            DUE.is("size(9)", x.size(9), k + 2);
        }
        for (int k = 0; k < 3; k++) {
            x.fact(10 + k, 0, 0, false);
            DUE.is("each literal is needed: holds(9, 3, 0)", x.holds(9, 3, 0), false);
            x.fact(10 + k, 0, 0, true);
        }
    }

    private static void numbers() {
        DUE.sentence("its number, 6, 7, ..");
        ProgramFacts x = Make.withRelations(2);
        for (int k = 0; k < 8; k++) {
            DUE.is("rule " + (k + 1), Make.rule(x, 9, 0, k % 6), 6 + k);
        }
    }

    private static void leastFreeNumber() {
        DUE.sentence("(the least that no rule has)");
        ProgramFacts x = Make.withRelations(2);
        for (int k = 0; k < 8; k++) {
            Make.rule(x, 9, 0, 0);
        }
        for (int number = 6; number < 14; number++) {
            x.forget(number);
            DUE.is("the only free one", Make.rule(x, 9, 1, 1), number);
        }
        x.forget(12);
        x.forget(7);
        x.forget(13);
        DUE.is("the least of three", Make.rule(x, 9, 2, 2), 7);
        DUE.is("the least of two", Make.rule(x, 9, 2, 2), 12);
        x.forget(6);
        DUE.is("one less has come free", Make.rule(x, 9, 2, 2), 6);
        DUE.is("the last", Make.rule(x, 9, 2, 2), 13);
        DUE.is("ways(9, 2, 2)", x.ways(9, 2, 2), 4);
        DUE.is("ways(9, 1, 1)", x.ways(9, 1, 1), 4);
    }

    private static void whenNoneAreGiven() {
        DUE.sentence("NONE when none are given");
        ProgramFacts x = Make.withRelations(2);
        DUE.is("at the beginning: rule()", x.rule(), -1);
        Make.rule(x, 9, 0, 0);
        DUE.is("after a rule: rule()", x.rule(), -1);
        x.literal(9, 0, 0, true);
        DUE.is("after a refused literal: rule()", x.rule(), -1);
        DUE.is("the next number is not used up", Make.rule(x, 9, 0, 0), 7);
    }

    private static void whenThereAreEight() {
        DUE.sentence("NONE when [..] there are eight rules of the user's");
        ProgramFacts x = Make.withRelations(2);
        for (int k = 0; k < 7; k++) {
            Make.rule(x, 9, 0, k % 6);
            DUE.is("refused ones do not count, unsafe", Make.rule(x, 9, A, B), UNSAFE);
            DUE.is("refused ones do not count, unstratified", Make.rule(x, 9, 0, 0, 9, 0, 0, 1), UNSTRATIFIED);
            DUE.is("nor does rule() of none", x.rule(), -1);
        }
        DUE.is("the eighth", Make.rule(x, 9, 0, 0), 13);
        DUE.is("a ninth", Make.rule(x, 9, 5, 5), -1);
        DUE.is("a ninth again", Make.rule(x, 9, 5, 5), -1);
        DUE.is("holds(9, 5, 5)", x.holds(9, 5, 5), false);
        DUE.is("size(9)", x.size(9), 6);
        x.forget(10);
        DUE.is("after one is forgotten", Make.rule(x, 9, 5, 5), 10);
        DUE.is("and then again", Make.rule(x, 9, 4, 4), -1);
        DUE.is("holds(9, 5, 5) after", x.holds(9, 5, 5), true);
    }

    private static void unsafe() {
        DUE.sentence("UNSAFE [each variable in its head]");
        ProgramFacts x = Make.withRelations(2, 1);
        for (int variable = A; variable <= D; variable++) {
            int other = variable == A ? B : A;
            DUE.is("no body, first", Make.rule(x, 9, variable, 0), UNSAFE);
            DUE.is("no body, second", Make.rule(x, 9, 0, variable), UNSAFE);
            DUE.is("no body, arity 1", Make.rule(x, 10, variable, 0), UNSAFE);
            DUE.is("not in the body, first", Make.rule(x, 9, variable, other, 6, other, other, 0), UNSAFE);
            DUE.is("not in the body, second", Make.rule(x, 9, other, variable, 6, other, other, 0), UNSAFE);
            DUE.is("only in a negated one", Make.rule(x, 10, variable, 0, 6, variable, 0, 1), UNSAFE);
        }
        DUE.is("one of both", Make.rule(x, 9, A, B, 10, A, 0, 0, 6, A, B, 1), UNSAFE);
        DUE.sentence("UNSAFE [each variable [..] in a negated literal]");
        for (int variable = A; variable <= D; variable++) {
            int other = variable == A ? B : A;
            DUE.is("first", Make.rule(x, 9, 0, 0, 6, variable, 0, 1), UNSAFE);
            DUE.is("second", Make.rule(x, 9, 0, 0, 6, 0, variable, 1), UNSAFE);
            DUE.is("arity 1", Make.rule(x, 9, 0, 0, 10, variable, 0, 1), UNSAFE);
            DUE.is("beside a bound one",
                Make.rule(x, 9, other, 0, 6, other, other, 0, 7, other, variable, 1), UNSAFE);
            DUE.is("in two negated ones",
                Make.rule(x, 9, 0, 0, 6, variable, variable, 1, 7, variable, 0, 1), UNSAFE);
            DUE.is("the last of three",
                Make.rule(x, 9, other, 0, 6, other, other, 0, 6, 0, other, 0, 7, variable, 0, 1), UNSAFE);
        }
    }

    private static void safe() {
        DUE.sentence("A rule is SAFE when each [such] variable [..] is also in a positive literal of its body");
        ProgramFacts x = Make.withRelations(2, 1);
        DUE.is("no variable at all", Make.rule(x, 9, 1, 2, 0, 3, 4, 1), 6);
        DUE.is("bound by arity 1", Make.rule(x, 10, A, 0, 10, A, 0, 0), 7);
        DUE.is("bound first and second", Make.rule(x, 9, B, A, 6, A, B, 0), 8);
        DUE.is("bound by two", Make.rule(x, 9, C, D, 6, C, C, 0, 7, D, D, 0), 9);
        DUE.is("negated before it is bound", Make.rule(x, 9, A, A, 6, A, B, 1, 7, B, A, 0), 10);
        DUE.is("bound by the last of three", Make.rule(x, 9, A, A, 6, A, 0, 1, 7, 0, A, 1, 8, 1, A, 0), 11);
        DUE.is("a variable in positive ones alone", Make.rule(x, 9, 0, 0, 6, A, B, 0), 12);
        DUE.is("bound by its own head's relation", Make.rule(x, 9, A, B, 9, A, B, 0), 13);
    }

    private static void unstratified() {
        DUE.sentence("UNSTRATIFIED [If there are no such numbers]");
        ProgramFacts x = Make.withRelations(1, 1, 1, 1, 1);
        DUE.is("9 if not 9", Make.rule(x, 9, 0, 0, 9, 0, 0, 1), UNSTRATIFIED);
        DUE.is("9 if not 9 of another tuple", Make.rule(x, 9, 0, 0, 9, 1, 0, 1), UNSTRATIFIED);
        DUE.is("10 if 9", Make.rule(x, 10, A, 0, 9, A, 0, 0), 6);
        DUE.is("9 if not 10", Make.rule(x, 9, 0, 0, 10, 0, 0, 1), UNSTRATIFIED);
        DUE.is("9 if 10, not 10", Make.rule(x, 9, A, 0, 10, A, 0, 0, 10, A, 0, 1), UNSTRATIFIED);
        DUE.is("11 if not 10", Make.rule(x, 11, 0, 0, 10, 0, 0, 1), 7);
        DUE.is("9 if 11", Make.rule(x, 9, A, 0, 11, A, 0, 0), UNSTRATIFIED);
        DUE.is("12 if 11", Make.rule(x, 12, A, 0, 11, A, 0, 0), 8);
        DUE.is("13 if 12", Make.rule(x, 13, A, 0, 12, A, 0, 0), 9);
        DUE.is("the longest ring: 9 if 13", Make.rule(x, 9, A, 0, 13, A, 0, 0), UNSTRATIFIED);
        DUE.is("9 if not 13", Make.rule(x, 9, A, 0, 6, A, A, 0, 13, A, 0, 1), UNSTRATIFIED);
        DUE.is("10 if 6, 6, not 13", Make.rule(x, 10, A, 0, 6, A, A, 0, 6, A, 0, 0, 13, A, 0, 1), UNSTRATIFIED);
    }

    private static void stratified() {
        DUE.sentence("[UNSTRATIFIED only] If there are no such numbers");
        ProgramFacts x = Make.withRelations(1, 1, 1, 1, 1);
        DUE.is("a ring without negation", Make.rule(x, 9, A, 0, 10, A, 0, 0), 6);
        DUE.is("is closed", Make.rule(x, 10, A, 0, 9, A, 0, 0), 7);
        DUE.is("9 if 9", Make.rule(x, 9, A, 0, 9, A, 0, 0), 8);
        DUE.is("negation out of the ring", Make.rule(x, 11, A, 0, 9, A, 0, 0, 10, A, 0, 1), 9);
        DUE.is("negation into the ring", Make.rule(x, 9, A, 0, 6, A, A, 0, 12, A, 0, 1), 10);
        DUE.is("negation over negation", Make.rule(x, 13, A, 0, 6, A, A, 0, 11, A, 0, 1), 11);
        DUE.is("a ring above", Make.rule(x, 11, A, 0, 13, A, 0, 0), UNSTRATIFIED);
        x.forget(11);
        DUE.is("and without its negation", Make.rule(x, 11, A, 0, 13, A, 0, 0), 11);
        DUE.is("negation of the library's", Make.rule(x, 12, A, 0, 0, A, A, 0, 8, A, A, 1), 12);
    }

    private static void noLiteralsAfterwards() {
        DUE.sentence("In each case no literals are given afterwards");
        ProgramFacts x = Make.withRelations(2);
        x.rule();
        noneIsGiven(x, "NONE for want of literals");
        Make.rule(x, 9, A, B);
        noneIsGiven(x, "UNSAFE");
        Make.rule(x, 9, 0, 0, 9, 0, 0, 1);
        noneIsGiven(x, "UNSTRATIFIED");
        for (int k = 0; k < 8; k++) {
            Make.rule(x, 9, k % 6, 0, 6, A, B, 0, 6, A, B, 0, 6, A, B, 0);
            noneIsGiven(x, "rule " + (k + 6));
        }
        Make.rule(x, 9, 0, 0, 6, A, B, 0);
        noneIsGiven(x, "NONE with eight");
    }

    /** Whether none is given: the next literal must be a head, and rule() has nothing to make. */
    private static void noneIsGiven(ProgramFacts x, String after) {
        DUE.is("after " + after + ": literal(0, 0, 0, false)", x.literal(0, 0, 0, false), -1);
        DUE.is("after " + after + ": literal(9, 0, 0, true)", x.literal(9, 0, 0, true), -1);
        DUE.is("after " + after + ": rule()", x.rule(), -1);
        DUE.is("after " + after + ": literal(9, A, A, false)", x.literal(9, A, A, false), 1);
        // Takes that literal away again: unsafe or, with eight rules, refused anyhow.
        x.rule();
    }

    private static void whereSeveralFit() {
        DUE.sentence("NONE [..]; UNSAFE; UNSTRATIFIED [in this order]");
        ProgramFacts x = Make.withRelations(2);
        DUE.is("unsafe and unstratified", Make.rule(x, 9, A, B, 9, C, D, 1), UNSAFE);
        for (int k = 0; k < 8; k++) {
            Make.rule(x, 9, 0, 0);
        }
        DUE.is("eight, unsafe", Make.rule(x, 9, A, B), -1);
        DUE.is("eight, unstratified", Make.rule(x, 9, 0, 0, 9, 0, 0, 1), -1);
    }

    private static void refusedOnesAreNotThere() {
        DUE.sentence("A call that is refused changes nothing [but the literals given]");
        ProgramFacts x = Make.withRelations(1, 1);
        x.fact(9, 3, 0, true);
        Make.rule(x, 10, A, 0, 9, A, 0, 0);
        DUE.is("changes()", x.changes(), 1);
        DUE.is("9 if not 10", Make.rule(x, 9, 0, 0, 10, 0, 0, 1), UNSTRATIFIED);
        DUE.is("9(A)", Make.rule(x, 9, A, 0), UNSAFE);
        DUE.is("rule() of none", x.rule(), -1);
        DUE.is("changes() after", x.changes(), 1);
        DUE.is("size(9)", x.size(9), 1);
        DUE.is("size(10)", x.size(10), 1);
        DUE.is("stratum(9)", x.stratum(9), 0);
        DUE.is("stratum(10)", x.stratum(10), 0);
        DUE.is("ways(9, 0, 0)", x.ways(9, 0, 0), 0);
        DUE.is("forget(7)", x.forget(7), false);
        DUE.is("it does not stand in the way: 9 if not POINTS", Make.rule(x, 9, 0, 0, 6, 0, 0, 1), 7);
        DUE.is("size(9) with it", x.size(9), 2);
    }
}
