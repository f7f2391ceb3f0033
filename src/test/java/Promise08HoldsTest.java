/** Promise 8: holds. */
public final class Promise08HoldsTest {
    private static final Due DUE = new Due("Promise08HoldsTest");

    public static void main(String[] args) {
        whetherItHasATuple();
        tuplesOfTheLibrarys();
        secondOfArityOne();
        secondOfArityTwo();
        noSuchRelation();
        wrongValues();
        DUE.end();
    }

    private static void whetherItHasATuple() {
        DUE.sentence("Whether a relation has a tuple");
        ProgramFacts x = Make.withRelations(2, 2);
        for (int a = 0; a < 6; a++) {
            x.fact(9, a, 5 - a, true);
        }
        Make.rule(x, 10, Make.B, Make.A, 9, Make.A, Make.B, 0);
        x.fact(9, 0, 5, false);
        for (int a = 0; a < 6; a++) {
            for (int b = 0; b < 6; b++) {
                boolean has = a + b == 5 && a != 0;
                DUE.is("a fact: holds(9, " + a + ", " + b + ")", x.holds(9, a, b), has);
                DUE.is("by a rule: holds(10, " + b + ", " + a + ")", x.holds(10, b, a), has);
            }
        }
    }

    private static void tuplesOfTheLibrarys() {
        DUE.sentence("Whether a relation has a tuple [of the relations 0 .. 8]");
        ProgramFacts x = new ProgramFacts();
        x.edit(0, Make.NEW, 0, 1);
        x.edit(1, Make.COPY, 2, 0);
        x.edit(2, Make.STORE0, 2, 0);
        x.edit(3, Make.LOAD0, 3, 2);
        x.edit(4, Make.STORE1, 0, 2);
        x.edit(5, Make.LOAD1, 4, 3);
        int[] one = {1, 20, 32, 20, 43, 2, -1, 11, 11};
        for (int relation = 0; relation < 9; relation++) {
            for (int a = 0; a < 6; a++) {
                for (int b = 0; b < 6; b++) {
                    boolean points = b == 1 && (a == 0 || a == 2 || a == 3 || a == 4);
                    boolean has = relation == 6 ? points : one[relation] == 10 * a + b;
                    DUE.is("holds(" + relation + ", " + a + ", " + b + ")", x.holds(relation, a, b), has);
                }
            }
        }
    }

    private static void secondOfArityOne() {
        DUE.sentence("(b is looked at only if its arity is 2) [it is 1]");
        ProgramFacts x = Make.withRelations(1);
        x.fact(9, 2, 0, true);
        for (int b : Wrong.outside(0, 5)) {
            DUE.is("holds(9, 2, " + b + ")", x.holds(9, 2, b), true);
            DUE.is("holds(9, 1, " + b + ")", x.holds(9, 1, b), false);
        }
        for (int b = 0; b < 6; b++) {
            DUE.is("holds(9, 2, " + b + ")", x.holds(9, 2, b), true);
            DUE.is("holds(9, 3, " + b + ")", x.holds(9, 3, b), false);
        }
    }

    private static void secondOfArityTwo() {
        DUE.sentence("(b is looked at only if its arity is 2) [it is 2]");
        ProgramFacts x = Make.withRelations(2);
        x.fact(9, 2, 0, true);
        x.edit(0, Make.NEW, 2, 0);
        for (int b = 1; b < 6; b++) {
            DUE.is("holds(9, 2, " + b + ")", x.holds(9, 2, b), false);
            DUE.is("holds(0, 2, " + b + ")", x.holds(0, 2, b), false);
            DUE.is("holds(6, 2, " + b + ")", x.holds(6, 2, b), false);
        }
        DUE.is("holds(9, 2, 0)", x.holds(9, 2, 0), true);
    }

    private static void noSuchRelation() {
        DUE.sentence("false when there is no such relation");
        ProgramFacts x = new ProgramFacts();
        x.edit(0, Make.NEW, 0, 0);
        x.edit(1, Make.STORE1, 0, 0);
        for (int count = 0; count <= 5; count++) {
            for (int relation : Wrong.outside(0, 8 + count)) {
                DUE.is("holds(" + relation + ", 0, 0)", x.holds(relation, 0, 0), false);
            }
            for (int relation = 9 + count; relation < 14; relation++) {
                DUE.is("holds(" + relation + ", 0, 0)", x.holds(relation, 0, 0), false);
            }
            x.relation(1 + count % 2);
            x.fact(9 + count, 0, 0, true);
        }
    }

    private static void wrongValues() {
        DUE.sentence("false when [..] a value is not 0 .. 5");
        ProgramFacts x = Make.withRelations(2, 1);
        Make.fill(x, 9);
        for (int a = 0; a < 6; a++) {
            x.fact(10, a, 0, true);
            x.edit(a, Make.NEW, a, a);
            x.edit(6 + a, Make.NEW, a, 5 - a);
        }
        for (int value : Wrong.outside(0, 5)) {
            for (int right = 0; right < 6; right += 5) {
                DUE.is("holds(9, " + value + ", " + right + ")", x.holds(9, value, right), false);
                DUE.is("holds(9, " + right + ", " + value + ")", x.holds(9, right, value), false);
                DUE.is("holds(0, " + value + ", " + right + ")", x.holds(0, value, right), false);
                DUE.is("holds(6, " + right + ", " + value + ")", x.holds(6, right, value), false);
            }
            DUE.is("holds(9, v, v) of " + value, x.holds(9, value, value), false);
            DUE.is("holds(10, " + value + ", 0)", x.holds(10, value, 0), false);
        }
    }
}
