/** Promise 7: edit. */
public final class Promise07EditTest {
    private static final int NONE = Make.NONE;
    private static final Due DUE = new Due("Promise07EditTest");

    public static void main(String[] args) {
        becomesThisOne();
        takesTheOldOneAway();
        allStatements();
        becomesNone();
        notLookedAt();
        howManyLines();
        noSuchLine();
        wrongOperations();
        wrongValues();
        DUE.end();
    }

    private static void becomesThisOne() {
        DUE.sentence("The statement of a line becomes this one");
        for (int line = 0; line < 12; line++) {
            ProgramFacts x = new ProgramFacts();
            x.edit(line, line % 6, 2, 5);
            for (int relation = 0; relation < 6; relation++) {
                boolean here = relation == line % 6;
                DUE.is("holds(" + relation + ", 2, 5)", x.holds(relation, 2, 5), here);
                DUE.is("size(" + relation + ")", x.size(relation), here ? 1 : 0);
                DUE.is("line(" + relation + ", 2, 5)", x.line(relation, 2, 5), here ? line : -1);
            }
            for (int k = 0; k < 12; k++) {
                boolean runs = k == line && (line % 6 == Make.NEW || line % 6 == Make.COPY);
                DUE.is("of line " + line + " alone: step(" + k + ")", x.step(k), runs);
            }
        }
    }

    private static void takesTheOldOneAway() {
        DUE.sentence("The statement of a line becomes this one [and the old one is gone]");
        ProgramFacts x = new ProgramFacts();
        for (int operation = 0; operation < 6; operation++) {
            DUE.is("edit", x.edit(3, operation, 1, 2), 1);
            for (int relation = 0; relation < 6; relation++) {
                DUE.is("size(" + relation + ")", x.size(relation), relation == operation ? 1 : 0);
            }
        }
        x.edit(3, Make.NEW, 1, 3);
        x.edit(3, Make.NEW, 4, 3);
        DUE.is("tuple(0, 0)", x.tuple(0, 0), 43);
        DUE.is("size(0)", x.size(0), 1);
        x.edit(5, Make.NEW, 4, 3);
        x.edit(3, Make.NEW, 0, 0);
        DUE.is("another line gives the fact, too: holds(0, 4, 3)", x.holds(0, 4, 3), true);
        DUE.is("size(0) of two", x.size(0), 2);
    }

    private static void allStatements() {
        DUE.sentence("an operation (one of the relations 0 .. 5) with two values x and y");
        for (int operation = 0; operation < 6; operation++) {
            ProgramFacts x = new ProgramFacts();
            for (int a = 0; a < 6; a++) {
                for (int b = 0; b < 6; b++) {
                    String call = "edit(11, " + operation + ", " + a + ", " + b + ")";
                    DUE.is(call, x.edit(11, operation, a, b), 1);
                    DUE.is(call + ": tuple", x.tuple(operation, 0), 10 * a + b);
                    DUE.is(call + ": size", x.size(operation), 1);
                    DUE.is(call + ": line", x.line(operation, a, b), 11);
                }
            }
        }
    }

    private static void becomesNone() {
        DUE.sentence("or, when operation is NONE, there is none");
        ProgramFacts x = new ProgramFacts();
        for (int line = 0; line < 12; line++) {
            x.edit(line, Make.COPY, line % 6, line / 6);
        }
        for (int line = 0; line < 12; line++) {
            DUE.is("edit of line " + line, x.edit(line, NONE, 0, 0), 11 - line);
            DUE.is("step(" + line + ")", x.step(line), false);
            DUE.is("line(1, ..)", x.line(Make.COPY, line % 6, line / 6), -1);
            DUE.is("size(1)", x.size(Make.COPY), 11 - line);
            DUE.is("where none was", x.edit(line, NONE, 0, 0), 11 - line);
        }
    }

    private static void notLookedAt() {
        DUE.sentence("(x and y are not looked at then)");
        for (int value : Wrong.outside(0, 5)) {
            ProgramFacts x = new ProgramFacts();
            x.edit(0, Make.NEW, 1, 1);
            DUE.is("edit(1, -1, " + value + ", 0)", x.edit(1, NONE, value, 0), 1);
            DUE.is("edit(1, -1, 0, " + value + ")", x.edit(1, NONE, 0, value), 1);
            DUE.is("edit(0, -1, v, v) of " + value, x.edit(0, NONE, value, value), 0);
            DUE.is("size(0)", x.size(0), 0);
            DUE.is("size(6)", x.size(6), 0);
            DUE.is("step(0)", x.step(0), false);
            DUE.is("edit(0, 0, 5, 5)", x.edit(0, Make.NEW, 5, 5), 1);
        }
    }

    private static void howManyLines() {
        DUE.sentence("Answers how many lines have a statement");
        ProgramFacts x = new ProgramFacts();
        int[] order = {11, 0, 5, 6, 1, 10, 2, 9, 3, 8, 4, 7};
        for (int k = 0; k < 12; k++) {
            DUE.is("edit of line " + order[k], x.edit(order[k], Make.STORE1, 0, 0), k + 1);
            DUE.is("the same again", x.edit(order[k], Make.STORE1, 0, 0), k + 1);
            DUE.is("another one", x.edit(order[k], Make.LOAD0, 3, 3), k + 1);
        }
        for (int k = 0; k < 12; k++) {
            DUE.is("none in line " + order[k], x.edit(order[k], NONE, 0, 0), 11 - k);
        }
        DUE.is("one again", x.edit(0, Make.NEW, 0, 0), 1);
    }

    private static void noSuchLine() {
        DUE.sentence("NONE when there is no such line");
        ProgramFacts x = new ProgramFacts();
        x.edit(0, Make.NEW, 1, 1);
        x.edit(11, Make.COPY, 2, 1);
        x.step(0);
        for (int line : Wrong.outside(0, 11)) {
            DUE.is("edit(" + line + ", 0, 0, 0)", x.edit(line, Make.NEW, 0, 0), -1);
            DUE.is("edit(" + line + ", -1, 0, 0)", x.edit(line, NONE, 0, 0), -1);
        }
        nothingChanged(x);
    }

    private static void wrongOperations() {
        DUE.sentence("NONE when [..] operation is not -1 .. 5");
        ProgramFacts x = new ProgramFacts();
        x.edit(0, Make.NEW, 1, 1);
        x.edit(11, Make.COPY, 2, 1);
        x.step(0);
        for (int operation : Wrong.outside(-1, 5)) {
            DUE.is("edit(0, " + operation + ", 0, 0)", x.edit(0, operation, 0, 0), -1);
            DUE.is("edit(1, " + operation + ", 0, 0)", x.edit(1, operation, 0, 0), -1);
        }
        for (int operation = 6; operation < 14; operation++) {
            DUE.is("edit(0, " + operation + ", 0, 0)", x.edit(0, operation, 0, 0), -1);
        }
        nothingChanged(x);
    }

    private static void wrongValues() {
        DUE.sentence("NONE when [..] x or y is not 0 .. 5");
        for (int operation = 0; operation < 6; operation++) {
            ProgramFacts x = new ProgramFacts();
            x.edit(0, Make.NEW, 1, 1);
            x.edit(11, Make.COPY, 2, 1);
            x.step(0);
            for (int value : Wrong.outside(0, 5)) {
                String call = "edit(0, " + operation + ", ";
                DUE.is(call + value + ", 0)", x.edit(0, operation, value, 0), -1);
                DUE.is(call + "0, " + value + ")", x.edit(0, operation, 0, value), -1);
                DUE.is(call + "v, v) of " + value, x.edit(0, operation, value, value), -1);
                DUE.is("a new line, x is " + value, x.edit(1, operation, value, 5), -1);
                DUE.is("a new line, y is " + value, x.edit(1, operation, 5, value), -1);
            }
            nothingChanged(x);
        }
    }

    /** Line 0 is NEW 1 1 and was carried out, line 11 is COPY 2 1, and no other line has any. */
    private static void nothingChanged(ProgramFacts x) {
        DUE.is("changes() of the last edit", x.changes(), 2);
        DUE.is("the run goes on: objects()", x.objects(), 1);
        DUE.is("site(1)", x.site(1), 1);
        DUE.is("line(0, 1, 1)", x.line(Make.NEW, 1, 1), 0);
        DUE.is("line(1, 2, 1)", x.line(Make.COPY, 2, 1), 11);
        DUE.is("size(6)", x.size(6), 2);
        DUE.is("step(11)", x.step(11), true);
        DUE.is("site(2)", x.site(2), 1);
        DUE.is("the next edit", x.edit(1, Make.NEW, 0, 0), 3);
    }
}
