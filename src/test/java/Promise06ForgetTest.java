/** Promise 6: forget. */
public final class Promise06ForgetTest {
    private static final int A = Make.A;
    private static final int B = Make.B;
    private static final int C = Make.C;
    private static final Due DUE = new Due("Promise06ForgetTest");

    public static void main(String[] args) {
        takesAway();
        eachOfTheEight();
        whatUpheldItself();
        whatStands();
        notOfTheUsers();
        noSuchRule();
        forgottenAlready();
        literalsStay();
        DUE.end();
    }

    private static void takesAway() {
        DUE.sentence("Takes a rule of the user's away: true");
        ProgramFacts x = Make.withRelations(2);
        x.edit(0, Make.NEW, 1, 2);
        Make.rule(x, 9, B, A, 6, A, B, 0);
        DUE.is("size(9) before", x.size(9), 1);
        DUE.is("forget(6)", x.forget(6), true);
        DUE.is("size(9) after", x.size(9), 0);
        DUE.is("ways(9, 2, 1)", x.ways(9, 2, 1), 0);
        x.edit(1, Make.NEW, 3, 4);
        DUE.is("it fires no more: size(9)", x.size(9), 0);
    }

    private static void eachOfTheEight() {
        DUE.sentence("Takes a rule of the user's away [that one and no other]");
        for (int rule = 6; rule < 14; rule++) {
            ProgramFacts x = Make.withRelations(2);
            for (int k = 0; k < 8; k++) {
                Make.rule(x, 9, k / 6, k % 6);
            }
            DUE.is("forget(" + rule + ")", x.forget(rule), true);
            DUE.is("changes()", x.changes(), 1);
            for (int k = 0; k < 8; k++) {
                DUE.is("holds(9, " + k / 6 + ", " + k % 6 + ")", x.holds(9, k / 6, k % 6), rule != 6 + k);
            }
        }
    }

    private static void whatUpheldItself() {
        DUE.sentence("the relations of a stratum are the least sets [after forget]");
        ProgramFacts x = Make.withRelations(2);
        Make.rule(x, 9, A, B, 6, A, B, 0);
        Make.rule(x, 9, A, C, 9, A, B, 0, 9, B, C, 0);
        x.edit(0, Make.NEW, 1, 1);
        x.edit(1, Make.NEW, 1, 2);
        DUE.is("size(9) before", x.size(9), 2);
        DUE.is("forget(6)", x.forget(6), true);
        DUE.is("size(9) after", x.size(9), 0);
        DUE.is("changes()", x.changes(), 2);
    }

    private static void whatStands() {
        DUE.sentence("Takes a rule [.. but not what other rules and facts give]");
        ProgramFacts x = Make.withRelations(1, 1);
        x.fact(9, 1, 0, true);
        Make.rule(x, 9, 1, 0);
        Make.rule(x, 9, 2, 0);
        Make.rule(x, 9, 2, 0);
        Make.rule(x, 10, 0, 0, 9, 2, 0, 1);
        DUE.is("forget(6)", x.forget(6), true);
        DUE.is("a fact: holds(9, 1, 0)", x.holds(9, 1, 0), true);
        DUE.is("forget(7)", x.forget(7), true);
        DUE.is("another rule: holds(9, 2, 0)", x.holds(9, 2, 0), true);
        DUE.is("changes()", x.changes(), 0);
        DUE.is("stratum(10)", x.stratum(10), 1);
        DUE.is("forget(8)", x.forget(8), true);
        DUE.is("the last one: holds(9, 2, 0)", x.holds(9, 2, 0), false);
        DUE.is("what was against it: holds(10, 0, 0)", x.holds(10, 0, 0), true);
        DUE.is("changes() at last", x.changes(), 2);
        DUE.is("forget(9)", x.forget(9), true);
        DUE.is("stratum(10) at last", x.stratum(10), 0);
    }

    private static void notOfTheUsers() {
        DUE.sentence("False when there is no such rule [of the user's]");
        ProgramFacts x = Make.withRelations(2);
        Make.rule(x, 9, 0, 0);
        for (int rule = 0; rule < 6; rule++) {
            DUE.is("forget(" + rule + ")", x.forget(rule), false);
        }
        x.edit(0, Make.NEW, 0, 1);
        x.edit(1, Make.COPY, 1, 0);
        x.edit(2, Make.STORE0, 0, 1);
        x.edit(3, Make.LOAD0, 2, 0);
        x.edit(4, Make.STORE1, 0, 1);
        x.edit(5, Make.LOAD1, 3, 0);
        DUE.is("rules 0, 1, 3 and 5 stand: size(6)", x.size(6), 4);
        DUE.is("rule 2 stands: size(7)", x.size(7), 1);
        DUE.is("rule 4 stands: size(8)", x.size(8), 1);
    }

    private static void noSuchRule() {
        DUE.sentence("False when there is no such rule");
        ProgramFacts x = Make.withRelations(2);
        for (int count = 0; count <= 8; count++) {
            for (int rule : Wrong.outside(6, 5 + count)) {
                DUE.is(count + " rules: forget(" + rule + ")", x.forget(rule), false);
            }
            DUE.is("size(9)", x.size(9), Math.min(count, 6));
            DUE.is("the next rule", Make.rule(x, 9, count % 6, 0), count < 8 ? 6 + count : -1);
        }
    }

    private static void forgottenAlready() {
        DUE.sentence("False when there is no such rule [any more]");
        ProgramFacts x = Make.withRelations(2);
        Make.rule(x, 9, 0, 0);
        Make.rule(x, 9, 1, 1);
        DUE.is("forget(6)", x.forget(6), true);
        DUE.is("forget(6) again", x.forget(6), false);
        DUE.is("size(9)", x.size(9), 1);
        DUE.is("the number is free", Make.rule(x, 9, 2, 2), 6);
        DUE.is("forget(6) of the new one", x.forget(6), true);
        DUE.is("tuple(9, 0)", x.tuple(9, 0), 11);
    }

    private static void literalsStay() {
        DUE.sentence("Takes a rule [.. and no literals that are given]");
        ProgramFacts x = Make.withRelations(2);
        Make.rule(x, 9, 0, 0);
        x.literal(9, 4, 5, false);
        DUE.is("forget(6)", x.forget(6), true);
        DUE.is("forget(6) again", x.forget(6), false);
        DUE.is("a second literal", x.literal(0, 0, 0, true), 2);
        DUE.is("rule()", x.rule(), 6);
        DUE.is("tuple(9, 0)", x.tuple(9, 0), 45);
    }
}
