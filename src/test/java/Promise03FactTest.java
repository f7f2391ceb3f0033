/** Promise 3: fact. */
public final class Promise03FactTest {
    private static final Due DUE = new Due("Promise03FactTest");

    public static void main(String[] args) {
        makesFacts();
        makesNoFacts();
        noSuchRelation();
        notOfTheUsers();
        wrongValues();
        secondOfArityOne();
        soAlready();
        soAlreadyIsSaidOfFacts();
        DUE.end();
    }

    private static void makesFacts() {
        DUE.sentence("Makes a tuple of a user's relation a fact [..]: true");
        ProgramFacts x = Make.withRelations(2, 1);
        int count = 0;
        for (int a = 0; a < 6; a++) {
            for (int b = 0; b < 6; b++) {
                String tuple = a + ", " + b;
                DUE.is("before: holds(9, " + tuple + ")", x.holds(9, a, b), false);
                DUE.is("fact(9, " + tuple + ", true)", x.fact(9, a, b, true), true);
                DUE.is("after: holds(9, " + tuple + ")", x.holds(9, a, b), true);
                count++;
                DUE.is("size(9)", x.size(9), count);
            }
            DUE.is("fact(10, " + a + ", 0, true)", x.fact(10, a, 0, true), true);
            DUE.is("size(10)", x.size(10), a + 1);
        }
        for (int relation = 9; relation < 14; relation++) {
            ProgramFacts all = Make.withRelations(2, 2, 2, 2, 2);
            DUE.is("fact(" + relation + ", 5, 5, true)", all.fact(relation, 5, 5, true), true);
            for (int other = 9; other < 14; other++) {
                DUE.is("size(" + other + ")", all.size(other), other == relation ? 1 : 0);
            }
        }
    }

    private static void makesNoFacts() {
        DUE.sentence("or no fact any more: true");
        ProgramFacts x = Make.withRelations(2, 1);
        Make.fill(x, 9);
        for (int a = 0; a < 6; a++) {
            x.fact(10, a, 0, true);
        }
        int left = 36;
        for (int a = 0; a < 6; a++) {
            for (int b = 0; b < 6; b++) {
                DUE.is("fact(9, " + a + ", " + b + ", false)", x.fact(9, a, b, false), true);
                left--;
                DUE.is("size(9)", x.size(9), left);
                DUE.is("holds(9, " + a + ", " + b + ")", x.holds(9, a, b), false);
            }
            DUE.is("fact(10, " + a + ", 0, false)", x.fact(10, a, 0, false), true);
            DUE.is("size(10)", x.size(10), 5 - a);
        }
        DUE.is("a fact again", x.fact(9, 0, 0, true), true);
        DUE.is("a fact again: size(9)", x.size(9), 1);
    }

    private static void noSuchRelation() {
        DUE.sentence("False when there is no such user's relation [at all]");
        for (int count = 0; count <= 5; count++) {
            ProgramFacts x = Make.withRelations(new int[] {2, 1, 2, 1, 2}, count);
            for (int relation : Wrong.outside(9, 8 + count)) {
                DUE.is("fact(" + relation + ", 0, 0, true)", x.fact(relation, 0, 0, true), false);
                DUE.is("fact(" + relation + ", 0, 0, false)", x.fact(relation, 0, 0, false), false);
            }
            for (int relation = 9 + count; relation < 15; relation++) {
                DUE.is("fact(" + relation + ", 1, 1, true)", x.fact(relation, 1, 1, true), false);
            }
            for (int relation = 9; relation < 9 + count; relation++) {
                DUE.is("size(" + relation + ")", x.size(relation), 0);
            }
        }
    }

    private static void notOfTheUsers() {
        DUE.sentence("False when there is no such user's relation [but one of the library's]");
        ProgramFacts x = Make.withRelations(2);
        x.edit(0, Make.NEW, 1, 1);
        for (int relation = 0; relation < 9; relation++) {
            DUE.is("fact(" + relation + ", 2, 3, true)", x.fact(relation, 2, 3, true), false);
            DUE.is("fact(" + relation + ", 1, 1, false)", x.fact(relation, 1, 1, false), false);
            boolean one = relation == Make.NEW || relation == Make.POINTS;
            DUE.is("size(" + relation + ")", x.size(relation), one ? 1 : 0);
        }
    }

    private static void wrongValues() {
        DUE.sentence("False when [..] a value is not 0 .. 5");
        ProgramFacts x = Make.withRelations(2, 1);
        x.fact(9, 3, 3, true);
        x.fact(10, 3, 0, true);
        for (int value : Wrong.outside(0, 5)) {
            for (boolean there : new boolean[] {true, false}) {
                String end = ", " + there + ")";
                DUE.is("fact(9, " + value + ", 0" + end, x.fact(9, value, 0, there), false);
                DUE.is("fact(9, 0, " + value + end, x.fact(9, 0, value, there), false);
                DUE.is("fact(9, 3, " + value + end, x.fact(9, 3, value, there), false);
                DUE.is("fact(9, v, v" + end, x.fact(9, value, value, there), false);
                DUE.is("fact(10, " + value + ", 0" + end, x.fact(10, value, 0, there), false);
            }
        }
        DUE.is("size(9)", x.size(9), 1);
        DUE.is("tuple(9, 0)", x.tuple(9, 0), 33);
        DUE.is("size(10)", x.size(10), 1);
        DUE.is("tuple(10, 0)", x.tuple(10, 0), 3);
    }

    private static void secondOfArityOne() {
        DUE.sentence("(b is looked at only if the arity is 2)");
        for (int b : Wrong.outside(0, 5)) {
            ProgramFacts x = Make.withRelations(1);
            DUE.is("fact(9, 5, " + b + ", true)", x.fact(9, 5, b, true), true);
            DUE.is("size(9)", x.size(9), 1);
            DUE.is("tuple(9, 0)", x.tuple(9, 0), 5);
            DUE.is("with another b it is so already", x.fact(9, 5, 3, true), false);
            DUE.is("fact(9, 0, " + b + ", false)", x.fact(9, 0, b, false), false);
            DUE.is("fact(9, 5, " + (b + 1) + ", false)", x.fact(9, 5, b + 1, false), true);
            DUE.is("size(9) after", x.size(9), 0);
        }
    }

    private static void soAlready() {
        DUE.sentence("False when [..] it is so already");
        ProgramFacts x = Make.withRelations(2, 1);
        for (int relation = 9; relation <= 10; relation++) {
            String call = "fact(" + relation + ", 0, 0, ";
            DUE.is(call + "false) of a new one", x.fact(relation, 0, 0, false), false);
            x.fact(relation, 0, 0, true);
            DUE.is(call + "true) again", x.fact(relation, 0, 0, true), false);
            DUE.is("it stays: size", x.size(relation), 1);
            DUE.is("ways", x.ways(relation, 0, 0), 1);
            x.fact(relation, 0, 0, false);
            DUE.is(call + "false) again", x.fact(relation, 0, 0, false), false);
            DUE.is("it stays away: size", x.size(relation), 0);
        }
    }

    private static void soAlreadyIsSaidOfFacts() {
        DUE.sentence("it is so already [a fact, not only a tuple of the relation]");
        ProgramFacts x = Make.withRelations(2);
        Make.rule(x, 9, 4, 2);
        DUE.is("there by a rule: fact(9, 4, 2, false)", x.fact(9, 4, 2, false), false);
        DUE.is("there by a rule: fact(9, 4, 2, true)", x.fact(9, 4, 2, true), true);
        DUE.is("no tuple came: changes()", x.changes(), 0);
        DUE.is("ways(9, 4, 2)", x.ways(9, 4, 2), 2);
        DUE.is("fact(9, 4, 2, true) again", x.fact(9, 4, 2, true), false);
        DUE.is("fact(9, 4, 2, false)", x.fact(9, 4, 2, false), true);
        DUE.is("no tuple went: changes()", x.changes(), 0);
        DUE.is("holds(9, 4, 2)", x.holds(9, 4, 2), true);
        DUE.is("ways(9, 4, 2) after", x.ways(9, 4, 2), 1);
    }
}
