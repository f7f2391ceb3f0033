/** Promises 7, 13 and 14, and the library's rules: edits, lines, changes, and where variables point. */
public final class ProgramTest {
    private static final int NONE = -1;
    private static final int NEW = 0;
    private static final int COPY = 1;
    private static final int LOAD0 = 2;
    private static final int STORE0 = 3;
    private static final int LOAD1 = 4;
    private static final int STORE1 = 5;
    private static final Due DUE = new Due("ProgramTest");

    public static void main(String[] args) {
        editsCountStatements();
        editsRefused();
        eachOperationHasItsRelation();
        leastLines();
        linesAtTheirEdges();
        changesOfEachCall();
        fieldsAreApart(LOAD0, STORE0, 7, 8);
        fieldsAreApart(LOAD1, STORE1, 8, 7);
        ringsDoNotUpholdThemselves();
        waysOfPointing();
        pointsOfAllTuples();
        DUE.end();
    }

    private static void editsCountStatements() {
        ProgramFacts x = new ProgramFacts();
        for (int line = 0; line < 12; line++) {
            DUE.is("edit of line " + line, x.edit(line, line % 6, line % 6, 0), line + 1);
        }
        DUE.is("another statement", x.edit(11, NEW, 5, 5), 12);
        DUE.is("no statement, x and y not looked at", x.edit(0, NONE, 99, -99), 11);
        DUE.is("no statement again", x.edit(0, NONE, 0, 0), 11);
    }

    private static void editsRefused() {
        ProgramFacts x = new ProgramFacts();
        x.edit(3, NEW, 1, 1);
        x.step(3);
        int[] wrong = {-1, 12, Integer.MAX_VALUE, Integer.MIN_VALUE};
        for (int line : wrong) {
            DUE.is("edit(" + line + ", 0, 0, 0)", x.edit(line, NEW, 0, 0), -1);
            DUE.is("edit(" + line + ", -1, 0, 0)", x.edit(line, NONE, 0, 0), -1);
        }
        for (int operation : new int[] {-2, 6, 9, Integer.MAX_VALUE, Integer.MIN_VALUE}) {
            DUE.is("edit(3, " + operation + ", 0, 0)", x.edit(3, operation, 0, 0), -1);
        }
        for (int value : new int[] {-1, 6, 10, Integer.MAX_VALUE, Integer.MIN_VALUE}) {
            for (int operation = 0; operation < 6; operation++) {
                DUE.is("edit(3, " + operation + ", " + value + ", 0)", x.edit(3, operation, value, 0), -1);
                DUE.is("edit(3, " + operation + ", 0, " + value + ")", x.edit(3, operation, 0, value), -1);
            }
        }
        DUE.is("refused edits leave the line", x.line(NEW, 1, 1), 3);
        DUE.is("refused edits leave changes()", x.changes(), 2);
        DUE.is("refused edits leave the run", x.objects(), 1);
        DUE.is("refused edits leave the variables", x.site(1), 1);
    }

    private static void eachOperationHasItsRelation() {
        for (int operation = 0; operation < 6; operation++) {
            ProgramFacts x = new ProgramFacts();
            x.edit(7, operation, 2, 5);
            for (int relation = 0; relation < 6; relation++) {
                boolean here = relation == operation;
                DUE.is("holds(" + relation + ", 2, 5)", x.holds(relation, 2, 5), here);
                DUE.is("size(" + relation + ")", x.size(relation), here ? 1 : 0);
                DUE.is("ways(" + relation + ", 2, 5)", x.ways(relation, 2, 5), here ? 1 : 0);
                DUE.is("line(" + relation + ", 2, 5)", x.line(relation, 2, 5), here ? 7 : -1);
                DUE.is("line(" + relation + ", 5, 2)", x.line(relation, 5, 2), -1);
            }
            DUE.is("size(6)", x.size(6), operation == NEW ? 1 : 0);
            DUE.is("line(6, 2, 5)", x.line(6, 2, 5), -1);
        }
    }

    private static void leastLines() {
        ProgramFacts x = new ProgramFacts();
        x.edit(9, COPY, 1, 2);
        x.edit(4, COPY, 1, 2);
        x.edit(11, COPY, 1, 2);
        DUE.is("line(1, 1, 2)", x.line(COPY, 1, 2), 4);
        DUE.is("one fact: ways(1, 1, 2)", x.ways(COPY, 1, 2), 1);
        DUE.is("one fact: size(1)", x.size(COPY), 1);
        x.edit(4, LOAD0, 1, 2);
        DUE.is("line(1, 1, 2) after", x.line(COPY, 1, 2), 9);
        DUE.is("the fact stays, another comes: changes()", x.changes(), 1);
        x.edit(9, NONE, 0, 0);
        DUE.is("line(1, 1, 2) at last", x.line(COPY, 1, 2), 11);
        DUE.is("nothing goes: changes()", x.changes(), 0);
    }

    private static void linesAtTheirEdges() {
        ProgramFacts x = new ProgramFacts();
        x.relation(2);
        x.fact(9, 0, 0, true);
        x.edit(0, NONE, 0, 0);
        for (int relation : new int[] {-1, -2, 6, 8, 9, 14, Integer.MAX_VALUE, Integer.MIN_VALUE}) {
            DUE.is("line(" + relation + ", 0, 0)", x.line(relation, 0, 0), -1);
        }
        x.edit(0, STORE1, 0, 5);
        DUE.is("line(5, 0, 5)", x.line(STORE1, 0, 5), 0);
        DUE.is("line(5, 0, 6)", x.line(STORE1, 0, 6), -1);
        DUE.is("line(5, -1, 5)", x.line(STORE1, -1, 5), -1);
        x.edit(0, NONE, 0, 5);
        DUE.is("line(5, 0, 5) without the statement", x.line(STORE1, 0, 5), -1);
        DUE.is("line(-1, 0, 5)", x.line(-1, 0, 5), -1);
    }

    private static void changesOfEachCall() {
        ProgramFacts x = new ProgramFacts();
        x.edit(0, NEW, 0, 3);
        DUE.is("NEW and POINTS: changes()", x.changes(), 2);
        x.edit(1, COPY, 1, 0);
        DUE.is("COPY and POINTS: changes()", x.changes(), 2);
        x.edit(0, NEW, 0, 4);
        DUE.is("NEW and two POINTS, each gone and come: changes()", x.changes(), 6);
        x.edit(0, NEW, 0, 4);
        DUE.is("the same statement: changes()", x.changes(), 0);
        x.relation(1);
        x.fact(9, 1, 0, true);
        DUE.is("fact: changes()", x.changes(), 1);
        x.relation(2);
        x.literal(10, 10, 11, false);
        x.literal(6, 10, 11, false);
        x.step(0);
        DUE.is("other calls leave it: changes()", x.changes(), 1);
        x.rule();
        DUE.is("rule: changes()", x.changes(), 2);
        x.edit(0, NONE, 0, 0);
        DUE.is("NEW, two POINTS and two of 10: changes()", x.changes(), 5);
        x.forget(6);
        DUE.is("forget: changes()", x.changes(), 0);
    }

    private static void fieldsAreApart(int load, int store, int heap, int otherHeap) {
        ProgramFacts x = new ProgramFacts();
        x.edit(0, NEW, 0, 5);
        x.edit(1, NEW, 1, 4);
        x.edit(2, store, 0, 1);
        x.edit(3, load, 2, 0);
        DUE.is("the field of site 5 has site 4", x.holds(heap, 5, 4), true);
        DUE.is("size of the heap", x.size(heap), 1);
        DUE.is("size of the other heap", x.size(otherHeap), 0);
        DUE.is("what is loaded", x.holds(6, 2, 4), true);
        DUE.is("size(6)", x.size(6), 3);
        x.edit(3, load == LOAD0 ? LOAD1 : LOAD0, 2, 0);
        DUE.is("the other field is empty", x.size(6), 2);
        DUE.is("changes()", x.changes(), 3);
    }

    private static void ringsDoNotUpholdThemselves() {
        ProgramFacts x = new ProgramFacts();
        x.edit(0, NEW, 0, 2);
        for (int k = 0; k < 6; k++) {
            x.edit(1 + k, COPY, k, (k + 1) % 6);
        }
        x.edit(7, STORE0, 0, 1);
        x.edit(8, LOAD0, 1, 0);
        DUE.is("all point to site 2", x.size(6), 6);
        DUE.is("HEAP0(2, 2)", x.holds(7, 2, 2), true);
        DUE.is("edit", x.edit(0, NONE, 0, 0), 8);
        DUE.is("none points any more", x.size(6), 0);
        DUE.is("size(7)", x.size(7), 0);
        DUE.is("changes()", x.changes(), 8);
    }

    private static void waysOfPointing() {
        ProgramFacts x = new ProgramFacts();
        x.edit(0, NEW, 0, 1);
        x.edit(1, NEW, 1, 1);
        x.edit(2, COPY, 2, 0);
        x.edit(3, COPY, 2, 1);
        x.edit(4, COPY, 2, 2);
        x.edit(5, NEW, 2, 1);
        DUE.is("by three copies and NEW: ways(6, 2, 1)", x.ways(6, 2, 1), 4);
        x.edit(6, STORE1, 0, 1);
        x.edit(7, STORE1, 2, 2);
        DUE.is("by two stores: ways(8, 1, 1)", x.ways(8, 1, 1), 2);
        x.edit(8, LOAD1, 5, 0);
        DUE.is("by a load: ways(6, 5, 1)", x.ways(6, 5, 1), 1);
        DUE.is("ways(6, 5, 2)", x.ways(6, 5, 2), 0);
        DUE.is("ways(7, 1, 1)", x.ways(7, 1, 1), 0);
    }

    private static void pointsOfAllTuples() {
        ProgramFacts x = new ProgramFacts();
        for (int a = 0; a < 6; a++) {
            for (int b = 0; b < 6; b++) {
                x.edit(0, NEW, a, b);
                DUE.is("NEW " + a + " " + b + ": tuple(6, 0)", x.tuple(6, 0), 10 * a + b);
                DUE.is("NEW " + a + " " + b + ": ways(6, a, b)", x.ways(6, a, b), 1);
                DUE.is("NEW " + a + " " + b + ": size(6)", x.size(6), 1);
            }
        }
    }
}
