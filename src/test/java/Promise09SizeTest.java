/** Promise 9: size. */
public final class Promise09SizeTest {
    private static final Due DUE = new Due("Promise09SizeTest");

    public static void main(String[] args) {
        fromEmptyToFull();
        fullByARule();
        ofTheLibrarys();
        noSuchRelation();
        DUE.end();
    }

    private static void fromEmptyToFull() {
        DUE.sentence("How many tuples a relation has");
        ProgramFacts x = Make.withRelations(1, 2, 1, 2, 1);
        for (int relation = 9; relation < 14; relation++) {
            DUE.is("empty: size(" + relation + ")", x.size(relation), 0);
        }
        int count = 0;
        for (int a = 5; a >= 0; a--) {
            for (int b = 5; b >= 0; b--) {
                x.fact(12, a, b, true);
                count++;
                DUE.is("size(12)", x.size(12), count);
            }
            x.fact(13, a, 5, true);
            DUE.is("size(13)", x.size(13), 6 - a);
        }
        DUE.is("full: size(12)", x.size(12), 36);
        DUE.is("full: size(13)", x.size(13), 6);
        DUE.is("refused ones add nothing", x.fact(13, 0, 1, true), false);
        DUE.is("full: size(13) still", x.size(13), 6);
        for (int relation = 9; relation < 12; relation++) {
            DUE.is("the others: size(" + relation + ")", x.size(relation), 0);
        }
    }

    private static void fullByARule() {
        DUE.sentence("How many tuples a relation has [by rules]");
        ProgramFacts x = Make.withRelations(1, 2, 1);
        for (int a = 0; a < 6; a++) {
            x.fact(9, a, 0, true);
        }
        Make.rule(x, 10, Make.A, Make.B, 9, Make.A, 0, 0, 9, Make.B, 0, 0);
        DUE.is("size(10)", x.size(10), 36);
        Make.rule(x, 11, Make.A, 0, 10, Make.A, Make.B, 0);
        DUE.is("a tuple counts once: size(11)", x.size(11), 6);
        x.fact(9, 3, 0, false);
        DUE.is("size(10) without one", x.size(10), 25);
        DUE.is("size(11) without one", x.size(11), 5);
    }

    private static void ofTheLibrarys() {
        DUE.sentence("How many tuples a relation has [of the relations 0 .. 8]");
        ProgramFacts x = new ProgramFacts();
        for (int k = 0; k < 6; k++) {
            x.edit(k, Make.NEW, 0, k);
        }
        for (int k = 0; k < 5; k++) {
            x.edit(6 + k, Make.COPY, k + 1, k);
        }
        x.edit(11, Make.STORE0, 5, 5);
        int[] sizes = {6, 5, 0, 1, 0, 0, 36, 36, 0};
        for (int relation = 0; relation < 9; relation++) {
            DUE.is("size(" + relation + ")", x.size(relation), sizes[relation]);
        }
        x.edit(11, Make.STORE1, 0, 3);
        DUE.is("size(7) after", x.size(7), 0);
        DUE.is("size(8) after", x.size(8), 36);
        x.edit(6, Make.NONE, 0, 0);
        DUE.is("size(6) without the first copy", x.size(6), 6);
    }

    private static void noSuchRelation() {
        DUE.sentence("NONE when there is no such relation");
        ProgramFacts x = new ProgramFacts();
        for (int count = 0; count <= 5; count++) {
            for (int relation : Wrong.outside(0, 8 + count)) {
                DUE.is(count + " made: size(" + relation + ")", x.size(relation), -1);
            }
            for (int relation = 0; relation < 14; relation++) {
                DUE.is(count + " made: size(" + relation + ")", x.size(relation), relation < 9 + count ? 0 : -1);
            }
            x.relation(2);
        }
    }
}
