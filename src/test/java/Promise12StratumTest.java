/** Promise 12: stratum. */
public final class Promise12StratumTest {
    private static final int A = Make.A;
    private static final Due DUE = new Due("Promise12StratumTest");

    public static void main(String[] args) {
        withoutNegation();
        notLessThanPositive();
        greaterThanNegated();
        theLeastOnes();
        theHighest();
        afterForget();
        afterARefusedRule();
        noSuchRelation();
        DUE.end();
    }

    private static void withoutNegation() {
        DUE.sentence("each relation has a number, 0 or more");
        ProgramFacts x = Make.withRelations(1, 2, 1, 2, 1);
        Make.rule(x, 10, A, A, 9, A, 0, 0);
        Make.rule(x, 9, A, 0, 10, A, A, 0, 6, A, A, 0);
        x.fact(9, 0, 0, true);
        x.edit(0, Make.NEW, 0, 0);
        for (int relation = 0; relation < 14; relation++) {
            DUE.is("stratum(" + relation + ")", x.stratum(relation), 0);
        }
    }

    private static void notLessThanPositive() {
        DUE.sentence("the head's number is not less than that of each positive literal of the body");
        for (int place = 0; place < 3; place++) {
            ProgramFacts x = Make.withRelations(1, 1, 1);
            Make.rule(x, 10, 0, 0, 9, 0, 0, 1);
            x.literal(11, 1, 0, false);
            for (int k = 0; k < 3; k++) {
                x.literal(k == place ? 10 : 9, 1, 0, false);
            }
            x.rule();
            DUE.is("stratum(10)", x.stratum(10), 1);
            DUE.is("stratum(11)", x.stratum(11), 1);
            DUE.is("stratum(9)", x.stratum(9), 0);
        }
    }

    private static void greaterThanNegated() {
        DUE.sentence("and greater than that of each negated one");
        for (int place = 0; place < 3; place++) {
            ProgramFacts x = Make.withRelations(1, 1, 1);
            Make.rule(x, 10, 0, 0, 9, 0, 0, 1);
            x.literal(11, 1, 0, false);
            for (int k = 0; k < 3; k++) {
                x.literal(k == place ? 10 : 9, 1, 0, true);
            }
            x.rule();
            DUE.is("stratum(10)", x.stratum(10), 1);
            DUE.is("stratum(11)", x.stratum(11), 2);
        }
        ProgramFacts x = Make.withRelations(1);
        Make.rule(x, 9, 0, 0, 0, 0, 0, 1);
        DUE.is("negated ones of the library's: stratum(9)", x.stratum(9), 1);
    }

    private static void theLeastOnes() {
        DUE.sentence("the least ones for which");
        ProgramFacts x = Make.withRelations(1, 1, 1, 1, 1);
        Make.rule(x, 10, 0, 0, 9, 0, 0, 1);
        Make.rule(x, 11, 0, 0, 9, 0, 0, 1, 6, 0, 0, 1, 8, 0, 0, 1);
        Make.rule(x, 12, 0, 0, 10, 0, 0, 0, 11, 0, 0, 0);
        DUE.is("stratum(9)", x.stratum(9), 0);
        DUE.is("stratum(10)", x.stratum(10), 1);
        DUE.is("three negated ones of 0: stratum(11)", x.stratum(11), 1);
        DUE.is("over two of 1: stratum(12)", x.stratum(12), 1);
        DUE.is("no rule: stratum(13)", x.stratum(13), 0);
        Make.rule(x, 12, 0, 0, 11, 0, 0, 1);
        DUE.is("the greater of its rules': stratum(12)", x.stratum(12), 2);
        Make.rule(x, 11, A, 0, 12, A, 0, 0, 13, A, 0, 0);
        DUE.is("refused: stratum(11)", x.stratum(11), 1);
        Make.rule(x, 9, 0, 0, 13, 0, 0, 1);
        for (int relation = 9; relation < 14; relation++) {
            DUE.is("all rise: stratum(" + relation + ")", x.stratum(relation),
                new int[] {1, 2, 2, 3, 0}[relation - 9]);
        }
    }

    private static void theHighest() {
        DUE.sentence("STRATA: each relation has a number [the highest]");
        ProgramFacts x = Make.withRelations(1, 1, 1, 1, 1);
        // The highest first, so that each later rule has to raise all before it.
        for (int head = 13; head > 9; head--) {
            Make.rule(x, head, 1, 0, head - 1, 1, 0, 1);
        }
        Make.rule(x, 9, 1, 0, 6, 1, 1, 1);
        for (int relation = 9; relation < 14; relation++) {
            DUE.is("stratum(" + relation + ")", x.stratum(relation), relation - 8);
            DUE.is("holds(" + relation + ", 1, 0)", x.holds(relation, 1, 0), relation % 2 == 1);
        }
        for (int relation = 0; relation < 9; relation++) {
            DUE.is("stratum(" + relation + ")", x.stratum(relation), 0);
        }
    }

    private static void afterForget() {
        DUE.sentence("The stratum of a relation [when a rule is taken away]");
        ProgramFacts x = Make.withRelations(1, 1, 1);
        Make.rule(x, 10, 0, 0, 9, 0, 0, 1);
        Make.rule(x, 11, 0, 0, 10, 0, 0, 1);
        DUE.is("stratum(11)", x.stratum(11), 2);
        x.forget(6);
        DUE.is("stratum(10) after", x.stratum(10), 0);
        DUE.is("stratum(11) after", x.stratum(11), 1);
        x.forget(7);
        DUE.is("stratum(11) at last", x.stratum(11), 0);
    }

    private static void afterARefusedRule() {
        DUE.sentence("The stratum of a relation [when a rule is refused]");
        ProgramFacts x = Make.withRelations(1, 1, 1);
        Make.rule(x, 10, 0, 0, 9, 0, 0, 1);
        DUE.is("unstratified", Make.rule(x, 9, 0, 0, 10, 0, 0, 0), -3);
        DUE.is("unsafe", Make.rule(x, 11, A, 0, 10, A, 0, 1), -2);
        DUE.is("stratum(9)", x.stratum(9), 0);
        DUE.is("stratum(10)", x.stratum(10), 1);
        DUE.is("stratum(11)", x.stratum(11), 0);
    }

    private static void noSuchRelation() {
        DUE.sentence("NONE when there is no such relation");
        ProgramFacts x = new ProgramFacts();
        for (int count = 0; count <= 5; count++) {
            for (int relation : Wrong.outside(0, 8 + count)) {
                DUE.is(count + " made: stratum(" + relation + ")", x.stratum(relation), -1);
            }
            for (int relation = 0; relation < 14; relation++) {
                DUE.is(count + " made: stratum(" + relation + ")", x.stratum(relation),
                    relation < 9 + count ? 0 : -1);
            }
            x.relation(2);
        }
    }
}
