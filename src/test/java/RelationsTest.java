/** Promises 1, 2, 3, 8, 9 and 10: a new object, the user's relations, their facts, and queries. */
public final class RelationsTest {
    private static final Due DUE = new Due("RelationsTest");

    public static void main(String[] args) {
        newObject();
        relationNumbers();
        factsOfBothArities();
        factsRefused();
        holdsAtItsEdges();
        tuplesInOrder();
        DUE.end();
    }

    private static void newObject() {
        ProgramFacts x = new ProgramFacts();
        for (int relation = 0; relation < 9; relation++) {
            DUE.is("new: size(" + relation + ")", x.size(relation), 0);
            DUE.is("new: stratum(" + relation + ")", x.stratum(relation), 0);
            DUE.is("new: ways(" + relation + ", 0, 0)", x.ways(relation, 0, 0), 0);
            DUE.is("new: line(" + relation + ", 0, 0)", x.line(relation, 0, 0), -1);
        }
        DUE.is("new: size(9)", x.size(9), -1);
        DUE.is("new: changes()", x.changes(), 0);
        DUE.is("new: objects()", x.objects(), 0);
        for (int k = 0; k < 12; k++) {
            DUE.is("new: step(" + k + ")", x.step(k), false);
            DUE.is("new: site(" + k + ")", x.site(k), -1);
            DUE.is("new: forget(" + k + ")", x.forget(k), false);
        }
        DUE.is("new: rule()", x.rule(), -1);
    }

    private static void relationNumbers() {
        ProgramFacts x = new ProgramFacts();
        for (int arity : new int[] {0, 3, -1, Integer.MAX_VALUE, Integer.MIN_VALUE}) {
            DUE.is("relation(" + arity + ")", x.relation(arity), -1);
        }
        for (int k = 0; k < 5; k++) {
            DUE.is("before: size(" + (9 + k) + ")", x.size(9 + k), -1);
            DUE.is("relation", x.relation(1 + k % 2), 9 + k);
            DUE.is("after: size(" + (9 + k) + ")", x.size(9 + k), 0);
        }
        DUE.is("a sixth relation(1)", x.relation(1), -1);
        DUE.is("a sixth relation(2)", x.relation(2), -1);
        DUE.is("size(14)", x.size(14), -1);
        DUE.is("size(-1)", x.size(-1), -1);
        DUE.is("no call of these four: changes()", x.changes(), 0);
    }

    private static void factsOfBothArities() {
        ProgramFacts x = new ProgramFacts();
        x.relation(1);
        x.relation(2);
        DUE.is("fact(9, 3, 99, true)", x.fact(9, 3, 99, true), true);
        DUE.is("changes()", x.changes(), 1);
        DUE.is("b is not looked at: holds(9, 3, -7)", x.holds(9, 3, -7), true);
        DUE.is("the same with another b", x.fact(9, 3, 0, true), false);
        DUE.is("tuple(9, 0)", x.tuple(9, 0), 3);
        DUE.is("size(9)", x.size(9), 1);
        DUE.is("ways(9, 3, 6)", x.ways(9, 3, 6), 1);
        DUE.is("fact(10, 5, 5, true)", x.fact(10, 5, 5, true), true);
        DUE.is("fact(10, 0, 0, true)", x.fact(10, 0, 0, true), true);
        DUE.is("fact(10, 5, 5, false)", x.fact(10, 5, 5, false), true);
        DUE.is("fact(10, 5, 5, false) again", x.fact(10, 5, 5, false), false);
        DUE.is("fact(9, 3, 1, false)", x.fact(9, 3, 1, false), true);
        DUE.is("size(9) after", x.size(9), 0);
        DUE.is("size(10) after", x.size(10), 1);
        DUE.is("a user's fact has no line", x.line(10, 0, 0), -1);
    }

    private static void factsRefused() {
        ProgramFacts x = new ProgramFacts();
        x.relation(2);
        x.relation(1);
        x.fact(9, 1, 1, true);
        for (int relation : new int[] {-1, 0, 6, 8, 11, 14, Integer.MAX_VALUE, Integer.MIN_VALUE}) {
            DUE.is("fact(" + relation + ", 0, 0, true)", x.fact(relation, 0, 0, true), false);
        }
        for (int value : new int[] {-1, 6, 10, Integer.MAX_VALUE, Integer.MIN_VALUE}) {
            DUE.is("fact(9, " + value + ", 0, true)", x.fact(9, value, 0, true), false);
            DUE.is("fact(9, 0, " + value + ", true)", x.fact(9, 0, value, true), false);
            DUE.is("fact(10, " + value + ", 0, true)", x.fact(10, value, 0, true), false);
        }
        DUE.is("fact(9, 0, 0, false)", x.fact(9, 0, 0, false), false);
        DUE.is("refused calls leave changes()", x.changes(), 1);
        DUE.is("refused calls leave size(9)", x.size(9), 1);
    }

    private static void holdsAtItsEdges() {
        ProgramFacts x = new ProgramFacts();
        x.relation(2);
        x.relation(1);
        for (int value = 0; value < 6; value++) {
            x.fact(9, value, 5 - value, true);
            x.fact(10, value, 0, true);
        }
        DUE.is("size(9)", x.size(9), 6);
        DUE.is("size(10)", x.size(10), 6);
        for (int a = -1; a < 7; a++) {
            for (int b = -1; b < 7; b++) {
                boolean values = a >= 0 && a < 6 && b >= 0 && b < 6;
                DUE.is("holds(9, " + a + ", " + b + ")", x.holds(9, a, b), values && a + b == 5);
                DUE.is("holds(10, " + a + ", " + b + ")", x.holds(10, a, b), a >= 0 && a < 6);
                DUE.is("holds(11, " + a + ", " + b + ")", x.holds(11, a, b), false);
                DUE.is("holds(-1, " + a + ", " + b + ")", x.holds(-1, a, b), false);
            }
        }
    }

    private static void tuplesInOrder() {
        ProgramFacts x = new ProgramFacts();
        x.relation(2);
        x.relation(1);
        int[][] given = {{5, 5}, {0, 3}, {3, 0}, {0, 0}, {3, 5}};
        for (int[] pair : given) {
            x.fact(9, pair[0], pair[1], true);
            x.fact(10, pair[0], pair[1], true);
        }
        int[] pairs = {0, 3, 30, 35, 55, -1, -1};
        int[] singles = {0, 3, 5, -1, -1, -1, -1};
        for (int k = 0; k < 7; k++) {
            DUE.is("tuple(9, " + k + ")", x.tuple(9, k), pairs[k]);
            DUE.is("tuple(10, " + k + ")", x.tuple(10, k), singles[k]);
        }
        for (int k : new int[] {-1, 36, Integer.MAX_VALUE, Integer.MIN_VALUE}) {
            DUE.is("tuple(9, " + k + ")", x.tuple(9, k), -1);
        }
        DUE.is("tuple(11, 0)", x.tuple(11, 0), -1);
        DUE.is("tuple(-1, 0)", x.tuple(-1, 0), -1);
    }
}
