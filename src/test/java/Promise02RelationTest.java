/** Promise 2: relation. */
public final class Promise02RelationTest {
    private static final Due DUE = new Due("Promise02RelationTest");

    public static void main(String[] args) {
        numbers();
        withoutFacts();
        ofTheArityAsked();
        whenThereAreFive();
        wrongArities();
        DUE.end();
    }

    private static void numbers() {
        DUE.sentence("A new relation of the user's [..]: its number");
        for (int arity = 1; arity <= 2; arity++) {
            ProgramFacts x = new ProgramFacts();
            for (int number = 9; number < 14; number++) {
                DUE.is("before: size(" + number + ")", x.size(number), -1);
                DUE.is("relation(" + arity + ")", x.relation(arity), number);
                DUE.is("after: size(" + number + ")", x.size(number), 0);
                DUE.is("after: stratum(" + number + ")", x.stratum(number), 0);
            }
        }
    }

    private static void withoutFacts() {
        DUE.sentence("without facts");
        ProgramFacts x = Make.withRelations(2);
        Make.fill(x, 9);
        DUE.is("relation(2) beside a full one", x.relation(2), 10);
        DUE.is("size(10)", x.size(10), 0);
        DUE.is("size(9)", x.size(9), 36);
        for (int a = 0; a < 6; a++) {
            for (int b = 0; b < 6; b++) {
                DUE.is("ways(10, " + a + ", " + b + ")", x.ways(10, a, b), 0);
            }
        }
    }

    private static void ofTheArityAsked() {
        DUE.sentence("RELATIONS have a number and an ARITY, 1 or 2");
        ProgramFacts x = Make.withRelations(1, 2, 2, 1, 2);
        int[] arities = {1, 2, 2, 1, 2};
        for (int k = 0; k < 5; k++) {
            x.fact(9 + k, 3, 4, true);
            DUE.is("tuple(" + (9 + k) + ", 0)", x.tuple(9 + k, 0), arities[k] == 1 ? 3 : 34);
            DUE.is("holds(" + (9 + k) + ", 3, 5)", x.holds(9 + k, 3, 5), arities[k] == 1);
        }
    }

    private static void whenThereAreFive() {
        DUE.sentence("NONE when there are five");
        ProgramFacts x = Make.withRelations(1, 2, 1, 2);
        DUE.is("the fifth", x.relation(1), 13);
        for (int k = 0; k < 3; k++) {
            DUE.is("a sixth relation(1)", x.relation(1), -1);
            DUE.is("a sixth relation(2)", x.relation(2), -1);
            DUE.is("a sixth, of arity 0", x.relation(0), -1);
        }
        DUE.is("size(14)", x.size(14), -1);
        x.fact(13, 5, 0, true);
        DUE.is("the fifth is as it was: holds(13, 5, 9)", x.holds(13, 5, 9), true);
    }

    private static void wrongArities() {
        DUE.sentence("NONE when [..] arity is not 1 or 2");
        ProgramFacts x = new ProgramFacts();
        for (int number = 9; number < 14; number++) {
            for (int arity : Wrong.outside(1, 2)) {
                DUE.is("relation(" + arity + ")", x.relation(arity), -1);
            }
            DUE.is("size(" + number + ")", x.size(number), -1);
            DUE.is("no number was used up: relation(2)", x.relation(2), number);
        }
    }
}
