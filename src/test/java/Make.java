/** Makes objects and rules in one go, for the tests that are about something else. */
final class Make {
    static final int A = 10;
    static final int B = 11;
    static final int C = 12;
    static final int D = 13;
    static final int NONE = -1;
    static final int UNSAFE = -2;
    static final int UNSTRATIFIED = -3;
    static final int NEW = 0;
    static final int COPY = 1;
    static final int LOAD0 = 2;
    static final int STORE0 = 3;
    static final int LOAD1 = 4;
    static final int STORE1 = 5;
    static final int POINTS = 6;
    static final int HEAP0 = 7;
    static final int HEAP1 = 8;

    private Make() {
    }

    /** An object with relations 9, 10, .. of these arities. */
    static ProgramFacts withRelations(int... arities) {
        return withRelations(arities, arities.length);
    }

    /** An object with relations of the first of these arities. */
    static ProgramFacts withRelations(int[] arities, int count) {
        ProgramFacts x = new ProgramFacts();
        for (int k = 0; k < count; k++) {
            x.relation(arities[k]);
        }
        return x;
    }

    /** Gives a head and then the body, each literal as relation, two terms and 1 if negated. */
    static void give(ProgramFacts x, int head, int a, int b, int... body) {
        x.literal(head, a, b, false);
        for (int k = 0; k < body.length; k += 4) {
            x.literal(body[k], body[k + 1], body[k + 2], body[k + 3] == 1);
        }
    }

    /** Gives the literals and makes the rule: what rule() answers. */
    static int rule(ProgramFacts x, int head, int a, int b, int... body) {
        give(x, head, a, b, body);
        return x.rule();
    }

    /** Makes all tuples of a user's relation of arity 2 facts: 36 calls. */
    static void fill(ProgramFacts x, int relation) {
        for (int a = 0; a < 6; a++) {
            for (int b = 0; b < 6; b++) {
                x.fact(relation, a, b, true);
            }
        }
    }
}
