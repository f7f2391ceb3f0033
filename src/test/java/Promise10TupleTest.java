/** Promise 10: tuple. */
public final class Promise10TupleTest {
    private static final Due DUE = new Due("Promise10TupleTest");

    public static void main(String[] args) {
        growingOrder();
        eachTupleAlone();
        arityOne();
        full();
        whenThereIsNone();
        noSuchRelation();
        DUE.end();
    }

    private static void growingOrder() {
        DUE.sentence("The k-th (from 0) tuple of a relation, by growing a, then b: 10 a + b");
        ProgramFacts x = Make.withRelations(2, 2);
        int[][] given = {{5, 5}, {0, 3}, {3, 0}, {0, 0}, {3, 5}, {5, 0}};
        for (int[] tuple : given) {
            x.fact(9, tuple[0], tuple[1], true);
        }
        Make.rule(x, 10, Make.B, Make.A, 9, Make.A, Make.B, 0);
        int[] due = {0, 3, 30, 35, 50, 55};
        int[] turned = {0, 3, 5, 30, 53, 55};
        for (int k = 0; k < 6; k++) {
            DUE.is("tuple(9, " + k + ")", x.tuple(9, k), due[k]);
            DUE.is("by a rule: tuple(10, " + k + ")", x.tuple(10, k), turned[k]);
        }
        x.fact(9, 3, 0, false);
        DUE.is("one less: tuple(9, 2)", x.tuple(9, 2), 35);
        x.edit(0, Make.NEW, 4, 1);
        x.edit(1, Make.NEW, 1, 4);
        DUE.is("tuple(0, 0)", x.tuple(0, 0), 14);
        DUE.is("tuple(6, 1)", x.tuple(6, 1), 41);
    }

    private static void eachTupleAlone() {
        DUE.sentence("10 a + b [for each a and b]");
        ProgramFacts x = Make.withRelations(2);
        for (int a = 0; a < 6; a++) {
            for (int b = 0; b < 6; b++) {
                x.fact(9, a, b, true);
                DUE.is("tuple(9, 0) of (" + a + ", " + b + ")", x.tuple(9, 0), 10 * a + b);
                DUE.is("tuple(9, 1)", x.tuple(9, 1), -1);
                x.fact(9, a, b, false);
            }
        }
    }

    private static void arityOne() {
        DUE.sentence("or a when its arity is 1");
        ProgramFacts x = Make.withRelations(1);
        for (int a = 5; a >= 0; a--) {
            x.fact(9, a, 7, true);
            for (int k = 0; k < 6; k++) {
                DUE.is("tuple(9, " + k + ")", x.tuple(9, k), k < 6 - a ? a + k : -1);
            }
        }
        DUE.is("tuple(9, 6) of a full one", x.tuple(9, 6), -1);
    }

    private static void full() {
        DUE.sentence("The k-th (from 0) tuple [of a full relation]");
        ProgramFacts x = Make.withRelations(2);
        Make.fill(x, 9);
        for (int k = 0; k < 36; k++) {
            DUE.is("tuple(9, " + k + ")", x.tuple(9, k), 10 * (k / 6) + k % 6);
        }
        for (int k : Wrong.outside(0, 35)) {
            DUE.is("tuple(9, " + k + ")", x.tuple(9, k), -1);
        }
    }

    private static void whenThereIsNone() {
        DUE.sentence("NONE when there is none");
        ProgramFacts x = Make.withRelations(2, 1);
        for (int relation = 0; relation < 11; relation++) {
            DUE.is("empty: tuple(" + relation + ", 0)", x.tuple(relation, 0), -1);
        }
        x.fact(9, 0, 0, true);
        x.fact(9, 5, 5, true);
        x.fact(10, 0, 0, true);
        DUE.is("the last: tuple(9, 1)", x.tuple(9, 1), 55);
        DUE.is("one past it: tuple(9, 2)", x.tuple(9, 2), -1);
        DUE.is("one past it: tuple(10, 1)", x.tuple(10, 1), -1);
        for (int k : Wrong.outside(0, 1)) {
            DUE.is("tuple(9, " + k + ")", x.tuple(9, k), -1);
            DUE.is("tuple(10, " + k + ")", x.tuple(10, k), -1);
            DUE.is("tuple(0, " + k + ")", x.tuple(0, k), -1);
        }
        x.fact(9, 0, 0, false);
        x.fact(9, 5, 5, false);
        DUE.is("empty again: tuple(9, 0)", x.tuple(9, 0), -1);
    }

    private static void noSuchRelation() {
        DUE.sentence("NONE when there is none [for want of the relation]");
        ProgramFacts x = new ProgramFacts();
        x.edit(0, Make.NEW, 0, 0);
        for (int count = 0; count <= 5; count++) {
            for (int relation : Wrong.outside(0, 8 + count)) {
                DUE.is("tuple(" + relation + ", 0)", x.tuple(relation, 0), -1);
            }
            for (int relation = 9 + count; relation < 14; relation++) {
                DUE.is("tuple(" + relation + ", 0)", x.tuple(relation, 0), -1);
            }
            x.relation(2 - count % 2);
            x.fact(9 + count, 0, 0, true);
        }
    }
}
