/** Promises 15, 16 and 17: steps, sites and objects. */
public final class RunTest {
    private static final Due DUE = new Due("RunTest");

    public static void main(String[] args) {
        stepsRefused();
        copiesOfNone();
        fieldsOfObjects(2, 3);
        fieldsOfObjects(4, 5);
        fieldsAreTwo();
        objectsAreShared();
        twentyObjects();
        editsEndTheRun();
        otherCallsLeaveTheRun();
        DUE.end();
    }

    private static void stepsRefused() {
        ProgramFacts x = new ProgramFacts();
        for (int line : new int[] {-1, 0, 11, 12, Integer.MAX_VALUE, Integer.MIN_VALUE}) {
            DUE.is("step(" + line + ")", x.step(line), false);
        }
        x.edit(0, 0, 1, 5);
        for (int operation = 2; operation < 6; operation++) {
            x.edit(operation, operation, 2, 3);
        }
        x.step(0);
        for (int operation = 2; operation < 6; operation++) {
            DUE.is("neither holds one: step(" + operation + ")", x.step(operation), false);
        }
        DUE.is("site(1)", x.site(1), 5);
        for (int variable : new int[] {-1, 6, 12, Integer.MAX_VALUE, Integer.MIN_VALUE}) {
            DUE.is("site(" + variable + ")", x.site(variable), -1);
        }
        DUE.is("objects()", x.objects(), 1);
    }

    private static void copiesOfNone() {
        ProgramFacts x = new ProgramFacts();
        x.edit(0, 0, 0, 0);
        x.edit(11, 1, 0, 5);
        x.step(0);
        DUE.is("site(0)", x.site(0), 0);
        DUE.is("a copy of none: step(11)", x.step(11), true);
        DUE.is("site(0) after", x.site(0), -1);
        DUE.is("the object is still there: objects()", x.objects(), 1);
    }

    private static void fieldsOfObjects(int load, int store) {
        ProgramFacts x = new ProgramFacts();
        x.edit(0, 0, 0, 4);
        x.edit(1, 0, 1, 5);
        x.edit(2, store, 0, 1);
        x.edit(3, load, 2, 0);
        x.edit(4, load, 1, 0);
        DUE.is("load from none: step(3)", x.step(3), false);
        x.step(0);
        DUE.is("a new field holds none: step(3)", x.step(3), true);
        DUE.is("site(2)", x.site(2), -1);
        x.step(1);
        DUE.is("store: step(2)", x.step(2), true);
        DUE.is("load: step(3)", x.step(3), true);
        DUE.is("site(2) after", x.site(2), 5);
        x.step(0);
        DUE.is("a load of none: step(4)", x.step(4), true);
        DUE.is("site(1)", x.site(1), -1);
        DUE.is("a store of none: step(2)", x.step(2), true);
        DUE.is("its load: step(3)", x.step(3), true);
        DUE.is("site(2) at last", x.site(2), -1);
        DUE.is("objects()", x.objects(), 3);
    }

    private static void fieldsAreTwo() {
        ProgramFacts x = new ProgramFacts();
        x.edit(0, 0, 0, 1);
        x.edit(1, 0, 1, 2);
        x.edit(2, 0, 2, 3);
        x.edit(3, 3, 0, 1);
        x.edit(4, 5, 0, 2);
        x.edit(5, 2, 3, 0);
        x.edit(6, 4, 4, 0);
        for (int line = 0; line < 7; line++) {
            DUE.is("step(" + line + ")", x.step(line), true);
        }
        DUE.is("field 0: site(3)", x.site(3), 2);
        DUE.is("field 1: site(4)", x.site(4), 3);
    }

    private static void objectsAreShared() {
        ProgramFacts x = new ProgramFacts();
        x.edit(0, 0, 0, 1);
        x.edit(1, 1, 1, 0);
        x.edit(2, 5, 1, 0);
        x.edit(3, 4, 2, 0);
        x.edit(4, 4, 0, 0);
        for (int line = 0; line < 4; line++) {
            DUE.is("step(" + line + ")", x.step(line), true);
        }
        DUE.is("stored through the other variable: site(2)", x.site(2), 1);
        x.step(0);
        DUE.is("x and y may be one: step(4)", x.step(4), true);
        DUE.is("site(0)", x.site(0), -1);
        DUE.is("site(1)", x.site(1), 1);
    }

    private static void twentyObjects() {
        ProgramFacts x = new ProgramFacts();
        x.edit(0, 0, 0, 1);
        x.edit(1, 0, 1, 2);
        x.edit(2, 3, 1, 0);
        x.edit(3, 2, 2, 1);
        for (int k = 0; k < 19; k++) {
            DUE.is("step(0)", x.step(0), true);
            DUE.is("objects()", x.objects(), k + 1);
        }
        DUE.is("the twentieth: step(1)", x.step(1), true);
        DUE.is("the next: step(0)", x.step(0), false);
        DUE.is("the next: step(1)", x.step(1), false);
        DUE.is("objects()", x.objects(), 20);
        DUE.is("the last one's field: step(2)", x.step(2), true);
        DUE.is("the last one's field: step(3)", x.step(3), true);
        DUE.is("site(2)", x.site(2), 1);
    }

    private static void editsEndTheRun() {
        ProgramFacts x = new ProgramFacts();
        x.edit(0, 0, 0, 1);
        x.edit(1, 3, 0, 0);
        x.edit(2, 2, 1, 0);
        x.step(0);
        x.step(1);
        DUE.is("the same statement again: edit", x.edit(0, 0, 0, 1), 3);
        DUE.is("objects()", x.objects(), 0);
        DUE.is("site(0)", x.site(0), -1);
        DUE.is("step(1)", x.step(1), false);
        x.step(0);
        DUE.is("the fields of a new object hold none: step(2)", x.step(2), true);
        DUE.is("site(1)", x.site(1), -1);
        DUE.is("no statement where none was: edit", x.edit(9, -1, 0, 0), 3);
        DUE.is("objects() after that, too", x.objects(), 0);
    }

    private static void otherCallsLeaveTheRun() {
        ProgramFacts x = new ProgramFacts();
        x.edit(0, 0, 3, 2);
        x.step(0);
        x.relation(1);
        x.fact(9, 0, 0, true);
        x.literal(9, 1, 0, false);
        x.rule();
        x.forget(6);
        x.edit(0, 6, 0, 0);
        DUE.is("objects()", x.objects(), 1);
        DUE.is("site(3)", x.site(3), 2);
        DUE.is("a step changes no relation: changes()", x.changes(), 1);
    }
}
