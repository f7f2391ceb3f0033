/** "Terms": the relations, the facts, the library's rules, and what the relations hold. */
public final class TermsTest {
    private static final int A = Make.A;
    private static final int B = Make.B;
    private static final int C = Make.C;
    private static final int D = Make.D;
    private static final Due DUE = new Due("TermsTest");

    public static void main(String[] args) {
        fromTheBeginning();
        eachOperation();
        sitesAndVariables();
        factsOfStatements();
        libraryRule0();
        libraryRule1();
        libraryRules2And4(Make.STORE0, Make.HEAP0, Make.HEAP1);
        libraryRules2And4(Make.STORE1, Make.HEAP1, Make.HEAP0);
        libraryRules3And5(Make.STORE0, Make.LOAD0, Make.LOAD1);
        libraryRules3And5(Make.STORE1, Make.LOAD1, Make.LOAD0);
        libraryIsFollowedToItsEnd();
        valuesAndVariablesInRules();
        leastSets();
        stratumAfterStratum();
        allThatGrewIsFollowed();
        eachRelationIsFollowed();
        longestChain();
        justTheirFacts();
        DUE.end();
    }

    private static void fromTheBeginning() {
        DUE.sentence("The relations 0 .. 8 are there from the beginning, all of arity 2");
        ProgramFacts x = Make.withRelations(2);
        for (int relation = 0; relation < 9; relation++) {
            DUE.is("size(" + relation + ")", x.size(relation), 0);
            DUE.is("b is looked at: ways(" + relation + ", 0, 6)", x.ways(relation, 0, 6), -1);
            DUE.is("ways(" + relation + ", 0, 5)", x.ways(relation, 0, 5), 0);
        }
        x.literal(9, 0, 0, false);
        for (int relation = 0; relation < 9; relation++) {
            DUE.is("b is looked at: literal(" + relation + ", 0, 6)", x.literal(relation, 0, 6, false), -1);
        }
    }

    private static void eachOperation() {
        DUE.sentence("0 NEW, 1 COPY, 2 LOAD0, 3 STORE0, 4 LOAD1, 5 STORE1, 6 POINTS, 7 HEAP0, 8 HEAP1");
        // One program, and what of it is there when its line of each operation is taken away.
        int[][] lines = {{0, 0, 5}, {1, 1, 0}, {3, 1, 0}, {2, 2, 1}, {5, 2, 1}, {4, 3, 2}};
        int[] points = {0, 1, 2, 2, 3, 3};
        int[] heap0 = {0, 0, 0, 1, 1, 1};
        int[] heap1 = {0, 0, 0, 0, 0, 1};
        for (int gone = 0; gone < 6; gone++) {
            ProgramFacts x = new ProgramFacts();
            for (int k = 0; k < 6; k++) {
                x.edit(k, lines[k][0], lines[k][1], lines[k][2]);
            }
            DUE.is("size(6) of all", x.size(6), 4);
            x.edit(gone, Make.NONE, 0, 0);
            DUE.is("size(6) without line " + gone, x.size(6), points[gone]);
            DUE.is("size(7) without line " + gone, x.size(7), heap0[gone]);
            DUE.is("size(8) without line " + gone, x.size(8), heap1[gone]);
        }
    }

    private static void sitesAndVariables() {
        DUE.sentence("x and y are variables; only for NEW y is a site");
        ProgramFacts x = new ProgramFacts();
        x.edit(0, Make.NEW, 2, 3);
        x.edit(1, Make.COPY, 4, 2);
        x.step(0);
        DUE.is("NEW 2 3: site(2)", x.site(2), 3);
        DUE.is("NEW 2 3: site(3)", x.site(3), -1);
        x.step(1);
        DUE.is("COPY 4 2: site(4)", x.site(4), 3);
        DUE.is("POINTS(2, 3)", x.holds(6, 2, 3), true);
        DUE.is("POINTS(4, 3)", x.holds(6, 4, 3), true);
        DUE.is("POINTS(4, 2)", x.holds(6, 4, 2), false);
    }

    private static void factsOfStatements() {
        DUE.sentence("FACTS are: the tuple (x, y) of the relation of its operation, for each statement");
        ProgramFacts x = new ProgramFacts();
        for (int line = 0; line < 12; line++) {
            x.edit(line, Make.COPY, line % 3, 4);
            DUE.is("size(1)", x.size(1), Math.min(line + 1, 3));
            DUE.is("ways(1, ..)", x.ways(1, line % 3, 4), 1);
        }
        for (int line = 0; line < 9; line++) {
            x.edit(line, Make.NONE, 0, 0);
            DUE.is("another line gives it: size(1)", x.size(1), 3);
            DUE.is("changes()", x.changes(), 0);
        }
        for (int line = 9; line < 12; line++) {
            x.edit(line, Make.NONE, 0, 0);
            DUE.is("no line gives it: size(1)", x.size(1), 11 - line);
        }
    }

    private static void libraryRule0() {
        DUE.sentence("0  POINTS(A, B) if NEW(A, B)");
        ProgramFacts x = new ProgramFacts();
        for (int a = 0; a < 6; a++) {
            for (int b = 0; b < 6; b++) {
                x.edit(0, Make.NEW, a, b);
                DUE.is("NEW " + a + " " + b + ": tuple(6, 0)", x.tuple(6, 0), 10 * a + b);
                DUE.is("NEW " + a + " " + b + ": size(6)", x.size(6), 1);
                DUE.is("NEW " + a + " " + b + ": ways(6, a, b)", x.ways(6, a, b), 1);
            }
        }
    }

    private static void libraryRule1() {
        DUE.sentence("1  POINTS(A, C) if COPY(A, B), POINTS(B, C)");
        ProgramFacts x = new ProgramFacts();
        x.edit(0, Make.COPY, 5, 4);
        DUE.is("COPY alone: size(6)", x.size(6), 0);
        x.edit(1, Make.NEW, 5, 0);
        DUE.is("not the other way: size(6)", x.size(6), 1);
        x.edit(1, Make.NEW, 4, 0);
        DUE.is("holds(6, 5, 0)", x.holds(6, 5, 0), true);
        DUE.is("size(6)", x.size(6), 2);
    }

    private static void libraryRules2And4(int store, int heap, int otherHeap) {
        DUE.sentence("HEAPf(C, D) if STOREf(A, B), POINTS(A, C), POINTS(B, D) [" + store + "]");
        ProgramFacts x = new ProgramFacts();
        x.edit(0, store, 0, 1);
        x.edit(1, Make.NEW, 0, 5);
        DUE.is("what is stored points nowhere", x.size(heap), 0);
        x.edit(1, Make.NEW, 1, 4);
        DUE.is("what it is stored in points nowhere", x.size(heap), 0);
        x.edit(2, Make.NEW, 0, 5);
        x.edit(3, Make.NEW, 0, 3);
        DUE.is("the field of site 3", x.tuple(heap, 0), 34);
        DUE.is("the field of site 5", x.tuple(heap, 1), 54);
        DUE.is("two", x.size(heap), 2);
        DUE.is("none of the other field", x.size(otherHeap), 0);
    }

    private static void libraryRules3And5(int store, int load, int otherLoad) {
        DUE.sentence("POINTS(A, D) if LOADf(A, B), POINTS(B, C), HEAPf(C, D) [" + load + "]");
        ProgramFacts x = new ProgramFacts();
        x.edit(0, Make.NEW, 0, 5);
        x.edit(1, Make.NEW, 1, 4);
        x.edit(2, store, 0, 1);
        x.edit(3, load, 2, 0);
        DUE.is("loaded: holds(6, 2, 4)", x.holds(6, 2, 4), true);
        DUE.is("loaded: size(6)", x.size(6), 3);
        x.edit(3, otherLoad, 2, 0);
        DUE.is("the other field is empty: size(6)", x.size(6), 2);
        x.edit(3, load, 2, 1);
        DUE.is("another site's field is empty: size(6)", x.size(6), 2);
        x.edit(3, load, 2, 3);
        DUE.is("no object: size(6)", x.size(6), 2);
    }

    private static void libraryIsFollowedToItsEnd() {
        DUE.sentence("for each instance of a rule with such a head whose body's literals all hold, the head's tuple");
        ProgramFacts x = new ProgramFacts();
        x.edit(0, Make.NEW, 0, 0);
        x.edit(1, Make.NEW, 1, 1);
        x.edit(2, Make.STORE0, 0, 1);
        x.edit(3, Make.LOAD0, 2, 0);
        x.edit(4, Make.STORE1, 2, 0);
        x.edit(5, Make.LOAD1, 3, 1);
        x.edit(6, Make.COPY, 4, 3);
        x.edit(7, Make.STORE0, 4, 4);
        x.edit(8, Make.LOAD0, 5, 3);
        int[] points = {0, 11, 20, 21, 30, 40, 50, 51, -1};
        for (int k = 0; k < 9; k++) {
            DUE.is("tuple(6, " + k + ")", x.tuple(6, k), points[k]);
        }
        int[] heap0 = {0, 1, -1};
        for (int k = 0; k < 3; k++) {
            DUE.is("tuple(7, " + k + ")", x.tuple(7, k), heap0[k]);
        }
        int[] heap1 = {0, 10, -1};
        for (int k = 0; k < 3; k++) {
            DUE.is("tuple(8, " + k + ")", x.tuple(8, k), heap1[k]);
        }
    }

    private static void valuesAndVariablesInRules() {
        DUE.sentence("a LITERAL is a relation with a TERM, or two, as its arity says");
        ProgramFacts x = Make.withRelations(2, 2, 1);
        x.fact(9, 1, 1, true);
        x.fact(9, 1, 2, true);
        x.fact(9, 4, 4, true);
        Make.rule(x, 10, A, A, 9, A, A, 0);
        DUE.is("10(A, A) if 9(A, A): size(10)", x.size(10), 2);
        DUE.is("ways(10, 1, 2)", x.ways(10, 1, 2), 0);
        Make.rule(x, 10, 5, B, 9, 1, B, 0);
        DUE.is("10(5, B) if 9(1, B): tuple(10, 2)", x.tuple(10, 2), 51);
        DUE.is("tuple(10, 3)", x.tuple(10, 3), 52);
        Make.rule(x, 10, B, A, 9, A, B, 0);
        DUE.is("10(B, A) if 9(A, B): holds(10, 2, 1)", x.holds(10, 2, 1), true);
        DUE.is("holds(10, 1, 2)", x.holds(10, 1, 2), false);
        Make.rule(x, 11, C, 0, 9, D, C, 0, 9, C, C, 0, 10, 5, C, 1);
        DUE.is("11(C) if 9(D, C), 9(C, C), not 10(5, C): tuple(11, 0)", x.tuple(11, 0), 4);
        DUE.is("size(11)", x.size(11), 1);
    }

    private static void leastSets() {
        DUE.sentence("the relations of a stratum are the least sets that have their facts");
        ProgramFacts x = Make.withRelations(2);
        Make.rule(x, 9, A, B, 9, B, A, 0);
        DUE.is("a rule on itself: size(9)", x.size(9), 0);
        x.edit(0, Make.NEW, 0, 2);
        for (int k = 0; k < 6; k++) {
            x.edit(1 + k, Make.COPY, k, (k + 1) % 6);
        }
        x.edit(7, Make.STORE0, 0, 1);
        x.edit(8, Make.LOAD0, 1, 0);
        DUE.is("a ring: size(6)", x.size(6), 6);
        DUE.is("HEAP0(2, 2)", x.holds(7, 2, 2), true);
        x.edit(0, Make.NONE, 0, 0);
        DUE.is("a ring does not uphold itself: size(6)", x.size(6), 0);
        DUE.is("size(7)", x.size(7), 0);
        x.fact(9, 3, 4, true);
        DUE.is("holds(9, 4, 3)", x.holds(9, 4, 3), true);
        x.fact(9, 3, 4, false);
        DUE.is("two do not uphold one another: size(9)", x.size(9), 0);
    }

    private static void stratumAfterStratum() {
        DUE.sentence("WHAT THE RELATIONS HOLD: stratum after stratum, 0 first");
        ProgramFacts x = Make.withRelations(2, 2, 1, 1);
        // Those of the higher strata first, and reach after all that reads it.
        Make.rule(x, 12, A, 0, 9, A, B, 0, 11, A, 0, 1);
        Make.rule(x, 11, A, 0, 9, A, B, 0, 10, B, A, 1);
        Make.rule(x, 10, A, C, 9, A, B, 0, 10, B, C, 0);
        Make.rule(x, 10, A, B, 9, A, B, 0);
        for (int a = 0; a < 5; a++) {
            x.fact(9, a, a + 1, true);
        }
        DUE.is("size(10) of a chain", x.size(10), 15);
        DUE.is("size(11) of a chain", x.size(11), 5);
        DUE.is("size(12) of a chain", x.size(12), 0);
        x.fact(9, 5, 0, true);
        DUE.is("size(10) of a ring", x.size(10), 36);
        DUE.is("size(11) of a ring", x.size(11), 0);
        DUE.is("size(12) of a ring", x.size(12), 6);
        DUE.is("changes()", x.changes(), 1 + 21 + 5 + 6);
        x.fact(9, 2, 3, false);
        DUE.is("size(10) of a chain again", x.size(10), 15);
        DUE.is("size(12) of a chain again", x.size(12), 0);
        DUE.is("changes() again", x.changes(), 1 + 21 + 5 + 6);
    }

    private static void allThatGrewIsFollowed() {
        DUE.sentence("after every edit all that follows is kept right");
        ProgramFacts x = Make.withRelations(1, 1, 1, 1, 1);
        // The rules that read what grows come before those that make it grow.
        Make.rule(x, 12, A, 0, 10, A, 0, 0);
        Make.rule(x, 13, A, 0, 11, A, 0, 0);
        Make.rule(x, 10, A, 0, 9, A, 0, 0);
        Make.rule(x, 11, A, 0, 9, A, 0, 0);
        Make.rule(x, 9, B, 0, 6, A, B, 0);
        x.edit(0, Make.NEW, 3, 4);
        for (int relation = 9; relation < 14; relation++) {
            DUE.is("tuple(" + relation + ", 0)", x.tuple(relation, 0), 4);
        }
        DUE.is("changes()", x.changes(), 7);
        x.edit(0, Make.LOAD0, 3, 4);
        for (int relation = 9; relation < 14; relation++) {
            DUE.is("size(" + relation + ")", x.size(relation), 0);
        }
    }

    private static void eachRelationIsFollowed() {
        DUE.sentence("after every edit all that follows is kept right [whatever relation it follows from]");
        for (int relation = 0; relation < 9; relation++) {
            for (int negated = 0; negated < 2; negated++) {
                ProgramFacts x = Make.withRelations(2);
                Make.rule(x, 9, 2, 3, relation, 1, 1, negated);
                DUE.is("before: size(9)", x.size(9), negated);
                int operation = relation < 6 ? relation : relation == 8 ? Make.STORE1 : Make.STORE0;
                x.edit(0, relation < 6 ? Make.NONE : Make.NEW, 1, 1);
                x.edit(1, operation, 1, 1);
                DUE.is("relation " + relation + ": holds", x.holds(relation, 1, 1), true);
                DUE.is("relation " + relation + " comes: size(9)", x.size(9), 1 - negated);
                x.edit(0, Make.NONE, 0, 0);
                x.edit(1, Make.NONE, 0, 0);
                DUE.is("relation " + relation + " goes: size(9)", x.size(9), negated);
            }
        }
    }

    private static void longestChain() {
        DUE.sentence("after every edit all that follows is kept right [however far it is]");
        ProgramFacts x = Make.withRelations(2, 2, 2, 2);
        for (int a = 0; a < 5; a++) {
            x.fact(12, a, a + 1, true);
        }
        // Each relation counts through all its tuples, one by one, and then starts the next one.
        for (int relation = 11; relation >= 9; relation--) {
            Make.rule(x, relation, C, 0, relation, A, 5, 0, 12, A, C, 0);
            Make.rule(x, relation, A, D, relation, A, B, 0, 12, B, D, 0);
            if (relation > 9) {
                Make.rule(x, relation, 0, 0, relation - 1, 5, 5, 0);
            }
        }
        DUE.is("without a start: size(9)", x.size(9), 0);
        x.fact(9, 0, 0, true);
        DUE.is("changes()", x.changes(), 108);
        DUE.is("size(11)", x.size(11), 36);
        x.fact(12, 4, 5, false);
        DUE.is("without a link: size(9)", x.size(9), 5);
        DUE.is("size(10)", x.size(10), 0);
        DUE.is("changes() after", x.changes(), 1 + 31 + 72);
    }

    private static void justTheirFacts() {
        DUE.sentence("(So relations 0 to 5 have just their facts.)");
        ProgramFacts x = Make.withRelations(2);
        Make.fill(x, 9);
        for (int operation = 0; operation < 6; operation++) {
            x.edit(operation, operation, 1, 1);
        }
        x.edit(6, Make.NEW, 2, 2);
        for (int relation = 0; relation < 6; relation++) {
            DUE.is("size(" + relation + ")", x.size(relation), relation == 0 ? 2 : 1);
            DUE.is("ways(" + relation + ", 1, 1)", x.ways(relation, 1, 1), 1);
        }
    }
}
