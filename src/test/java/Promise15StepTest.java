/** Promise 15: step, and what "A RUN" says of it. */
public final class Promise15StepTest {
    private static final Due DUE = new Due("Promise15StepTest");

    public static void main(String[] args) {
        eachLine();
        stepOfNew();
        stepOfCopy();
        stepOfLoad(Make.LOAD0, Make.STORE0);
        stepOfLoad(Make.LOAD1, Make.STORE1);
        stepOfStore(Make.LOAD0, Make.STORE0);
        stepOfStore(Make.LOAD1, Make.STORE1);
        twoFields();
        sharedObjects();
        oneVariableTwice();
        noSuchLine();
        noStatement();
        twentyObjects();
        holdsNone(Make.LOAD0);
        holdsNone(Make.LOAD1);
        holdsNone(Make.STORE0);
        holdsNone(Make.STORE1);
        relationsStay();
        DUE.end();
    }

    private static ProgramFacts withLines(int... statements) {
        ProgramFacts x = new ProgramFacts();
        for (int k = 0; k < statements.length; k += 3) {
            x.edit(k / 3, statements[k], statements[k + 1], statements[k + 2]);
        }
        return x;
    }

    private static void eachLine() {
        DUE.sentence("carries out the statement of a line: true");
        ProgramFacts x = new ProgramFacts();
        for (int line = 0; line < 12; line++) {
            x.edit(line, Make.NEW, line % 6, (line + 3) % 6);
        }
        for (int line = 11; line >= 0; line--) {
            DUE.is("step(" + line + ")", x.step(line), true);
            DUE.is("site(" + line % 6 + ")", x.site(line % 6), (line + 3) % 6);
            DUE.is("objects()", x.objects(), 12 - line);
        }
    }

    private static void stepOfNew() {
        DUE.sentence("NEW x y: x holds a new object of site y, whose fields hold none");
        ProgramFacts x = withLines(Make.NEW, 1, 4, Make.STORE0, 1, 1, Make.STORE1, 1, 1,
            Make.LOAD0, 2, 1, Make.LOAD1, 3, 1, Make.COPY, 0, 1, Make.NEW, 1, 5);
        x.step(0);
        x.step(1);
        x.step(2);
        x.step(5);
        DUE.is("step(6)", x.step(6), true);
        DUE.is("site(1)", x.site(1), 5);
        DUE.is("the other one is as it was: site(0)", x.site(0), 4);
        DUE.is("step(3)", x.step(3), true);
        DUE.is("field 0: site(2)", x.site(2), -1);
        DUE.is("step(4)", x.step(4), true);
        DUE.is("field 1: site(3)", x.site(3), -1);
        DUE.is("objects()", x.objects(), 2);
    }

    private static void stepOfCopy() {
        DUE.sentence("COPY x y: x holds what y holds");
        ProgramFacts x = withLines(Make.NEW, 0, 2, Make.COPY, 5, 0, Make.COPY, 0, 4, Make.COPY, 5, 5);
        x.step(0);
        DUE.is("step(1)", x.step(1), true);
        DUE.is("site(5)", x.site(5), 2);
        DUE.is("y holds it, too: site(0)", x.site(0), 2);
        DUE.is("a copy of none: step(2)", x.step(2), true);
        DUE.is("site(0) after", x.site(0), -1);
        DUE.is("site(5) after", x.site(5), 2);
        DUE.is("to itself: step(3)", x.step(3), true);
        DUE.is("site(5) at last", x.site(5), 2);
        DUE.is("objects()", x.objects(), 1);
        DUE.is("none to none", withLines(Make.COPY, 1, 2).step(0), true);
    }

    private static void stepOfLoad(int load, int store) {
        DUE.sentence("LOADf x y: x holds what field f of the object that y holds has [" + load + "]");
        ProgramFacts x = withLines(Make.NEW, 0, 4, Make.NEW, 1, 5, store, 0, 1, load, 2, 0, load, 1, 0);
        x.step(0);
        x.step(1);
        DUE.is("an empty field, to a variable that holds one: step(4)", x.step(4), true);
        DUE.is("site(1)", x.site(1), -1);
        x.step(1);
        x.step(2);
        DUE.is("a field that has one: step(3)", x.step(3), true);
        DUE.is("site(2)", x.site(2), 5);
        DUE.is("y holds what it held: site(0)", x.site(0), 4);
        DUE.is("again: step(3)", x.step(3), true);
        DUE.is("site(2) again", x.site(2), 5);
        DUE.is("objects()", x.objects(), 3);
    }

    private static void stepOfStore(int load, int store) {
        DUE.sentence("STOREf x y: field f of the object that x holds has what y holds from then on [" + store + "]");
        ProgramFacts x = withLines(Make.NEW, 0, 4, Make.NEW, 1, 5, store, 0, 1, load, 2, 0,
            Make.COPY, 1, 3, Make.NEW, 1, 3);
        x.step(0);
        x.step(1);
        DUE.is("step(2)", x.step(2), true);
        DUE.is("x and y hold what they held: site(0)", x.site(0), 4);
        DUE.is("x and y hold what they held: site(1)", x.site(1), 5);
        x.step(5);
        x.step(3);
        DUE.is("the field has what y held then: site(2)", x.site(2), 5);
        DUE.is("another one: step(2)", x.step(2), true);
        x.step(3);
        DUE.is("the field has it from then on: site(2)", x.site(2), 3);
        x.step(4);
        DUE.is("what y holds is none: step(2)", x.step(2), true);
        DUE.is("load: step(3)", x.step(3), true);
        DUE.is("the field has none: site(2)", x.site(2), -1);
    }

    private static void twoFields() {
        DUE.sentence("an object has the site at which it was made, and two fields");
        ProgramFacts x = withLines(Make.NEW, 0, 1, Make.NEW, 1, 2, Make.NEW, 2, 3, Make.STORE0, 0, 1,
            Make.STORE1, 0, 2, Make.LOAD0, 3, 0, Make.LOAD1, 4, 0, Make.STORE0, 2, 0, Make.LOAD0, 5, 2);
        for (int line = 0; line < 9; line++) {
            DUE.is("step(" + line + ")", x.step(line), true);
        }
        DUE.is("field 0: site(3)", x.site(3), 2);
        DUE.is("field 1: site(4)", x.site(4), 3);
        DUE.is("field 0 of another object: site(5)", x.site(5), 1);
    }

    private static void sharedObjects() {
        DUE.sentence("field f of the object that x holds [whichever variable holds it]");
        ProgramFacts x = withLines(Make.NEW, 0, 1, Make.COPY, 1, 0, Make.STORE1, 1, 0, Make.LOAD1, 2, 0,
            Make.NEW, 0, 1, Make.LOAD1, 3, 0);
        for (int line = 0; line < 6; line++) {
            DUE.is("step(" + line + ")", x.step(line), true);
        }
        DUE.is("stored through the other variable: site(2)", x.site(2), 1);
        DUE.is("another object of the same site: site(3)", x.site(3), -1);
    }

    private static void oneVariableTwice() {
        DUE.sentence("x holds what field f of the object that y holds has [x and y are one]");
        ProgramFacts x = withLines(Make.NEW, 0, 1, Make.STORE0, 0, 0, Make.LOAD0, 0, 0, Make.LOAD1, 0, 0);
        x.step(0);
        DUE.is("step(1)", x.step(1), true);
        DUE.is("step(2)", x.step(2), true);
        DUE.is("site(0)", x.site(0), 1);
        DUE.is("step(3)", x.step(3), true);
        DUE.is("site(0) after", x.site(0), -1);
        DUE.is("step(3) again", x.step(3), false);
    }

    private static void noSuchLine() {
        DUE.sentence("False when there is no such line");
        ProgramFacts x = new ProgramFacts();
        for (int line = 0; line < 12; line++) {
            x.edit(line, Make.NEW, line % 6, 0);
        }
        for (int line : Wrong.outside(0, 11)) {
            DUE.is("step(" + line + ")", x.step(line), false);
        }
        DUE.is("objects()", x.objects(), 0);
    }

    private static void noStatement() {
        DUE.sentence("False when [..] no statement");
        ProgramFacts x = new ProgramFacts();
        for (int line = 0; line < 12; line++) {
            DUE.is("never had one: step(" + line + ")", x.step(line), false);
            x.edit(line, line % 2, 3, 3);
            DUE.is("has one: step(" + line + ")", x.step(line), true);
            x.edit(line, Make.NONE, 3, 3);
            DUE.is("has none any more: step(" + line + ")", x.step(line), false);
        }
        DUE.is("objects()", x.objects(), 0);
    }

    private static void twentyObjects() {
        DUE.sentence("False when [..] NEW and 20 objects are there");
        ProgramFacts x = withLines(Make.NEW, 0, 1, Make.NEW, 1, 2, Make.STORE0, 1, 0, Make.LOAD0, 2, 1,
            Make.COPY, 3, 1, Make.STORE1, 0, 1, Make.LOAD1, 4, 0);
        for (int k = 1; k < 20; k++) {
            DUE.is("step(0), object " + k, x.step(0), true);
        }
        DUE.is("the twentieth: step(1)", x.step(1), true);
        for (int k = 0; k < 3; k++) {
            DUE.is("one more: step(0)", x.step(0), false);
            DUE.is("one more: step(1)", x.step(1), false);
        }
        DUE.is("objects()", x.objects(), 20);
        for (int line = 2; line < 7; line++) {
            DUE.is("the others go on: step(" + line + ")", x.step(line), true);
        }
        DUE.is("site(2)", x.site(2), 1);
        DUE.is("site(3)", x.site(3), 2);
        DUE.is("site(4)", x.site(4), 2);
        x.edit(11, Make.NONE, 0, 0);
        DUE.is("after an edit there is room: step(0)", x.step(0), true);
        DUE.is("objects() after", x.objects(), 1);
    }

    private static void holdsNone(int operation) {
        DUE.sentence("or LOAD or STORE, and the variable whose field is meant holds none [" + operation + "]");
        boolean load = operation == Make.LOAD0 || operation == Make.LOAD1;
        ProgramFacts x = withLines(operation, 2, 3, Make.NEW, 2, 4, Make.NEW, 3, 5, Make.COPY, 2, 0, Make.COPY, 3, 0);
        DUE.is("both hold none: step(0)", x.step(0), false);
        x.step(load ? 1 : 2);
        DUE.is("only the other one holds one: step(0)", x.step(0), false);
        DUE.is("site(2)", x.site(2), load ? 4 : -1);
        DUE.is("site(3)", x.site(3), load ? -1 : 5);
        x.step(load ? 2 : 1);
        DUE.is("both hold one: step(0)", x.step(0), true);
        x.step(1);
        x.step(load ? 3 : 4);
        DUE.is("only the one meant holds one: step(0)", x.step(0), true);
        x.step(load ? 4 : 3);
        DUE.is("it has lost it: step(0)", x.step(0), false);
    }

    private static void relationsStay() {
        DUE.sentence("A step carries out the statement of a line [and changes no relation]");
        ProgramFacts x = withLines(Make.NEW, 0, 1, Make.COPY, 1, 0, Make.STORE0, 0, 0, Make.LOAD0, 2, 0);
        for (int line = 0; line < 4; line++) {
            x.step(line);
            DUE.is("size(6)", x.size(6), 3);
            DUE.is("size(7)", x.size(7), 1);
            DUE.is("changes()", x.changes(), 2);
        }
    }
}
