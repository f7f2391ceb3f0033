/** Promise 17: objects. */
public final class Promise17ObjectsTest {
    private static final Due DUE = new Due("Promise17ObjectsTest");

    public static void main(String[] args) {
        fromNoneToTwenty();
        onlyNewMakesThem();
        heldOrNot();
        afterEachEdit();
        otherCalls();
        DUE.end();
    }

    private static void fromNoneToTwenty() {
        DUE.sentence("How many objects there are");
        ProgramFacts x = new ProgramFacts();
        DUE.is("at the beginning: objects()", x.objects(), 0);
        x.edit(0, Make.NEW, 0, 0);
        x.edit(1, Make.NEW, 5, 5);
        DUE.is("before a step: objects()", x.objects(), 0);
        for (int k = 1; k <= 20; k++) {
            x.step(k % 2);
            DUE.is("objects()", x.objects(), k);
        }
        for (int k = 0; k < 5; k++) {
            DUE.is("step(" + k % 2 + ")", x.step(k % 2), false);
            DUE.is("not more than 20: objects()", x.objects(), 20);
        }
    }

    private static void onlyNewMakesThem() {
        DUE.sentence("How many objects there are [only NEW makes one]");
        ProgramFacts x = new ProgramFacts();
        for (int operation = 0; operation < 6; operation++) {
            x.edit(operation, operation, 0, 0);
        }
        x.step(0);
        x.step(3);
        x.step(5);
        int[] order = {2, 4, 1, 3, 5};
        for (int operation : order) {
            DUE.is("step(" + operation + ")", x.step(operation), true);
            DUE.is("objects()", x.objects(), 1);
        }
        DUE.is("a refused step: step(6)", x.step(6), false);
        DUE.is("objects() after it", x.objects(), 1);
    }

    private static void heldOrNot() {
        DUE.sentence("How many objects there are [whether or not a variable holds them]");
        ProgramFacts x = new ProgramFacts();
        x.edit(0, Make.NEW, 0, 0);
        x.edit(1, Make.COPY, 0, 1);
        x.step(0);
        x.step(0);
        x.step(1);
        DUE.is("no variable holds one: site(0)", x.site(0), -1);
        DUE.is("objects()", x.objects(), 2);
    }

    private static void afterEachEdit() {
        DUE.sentence("after each edit, there are no objects");
        ProgramFacts x = new ProgramFacts();
        x.edit(0, Make.NEW, 0, 0);
        for (int line = 0; line < 12; line++) {
            x.step(0);
            x.step(0);
            DUE.is("objects()", x.objects(), 2);
            x.edit(line, Make.NEW, 0, 0);
            DUE.is("after edit of line " + line + ": objects()", x.objects(), 0);
            x.step(0);
            x.edit(line, line == 0 ? Make.NEW : Make.NONE, 0, 0);
            DUE.is("after another one: objects()", x.objects(), 0);
        }
        x.step(0);
        x.edit(12, Make.NEW, 0, 0);
        x.edit(0, Make.NEW, 6, 0);
        DUE.is("a refused edit is none: objects()", x.objects(), 1);
    }

    private static void otherCalls() {
        DUE.sentence("How many objects there are [facts and rules make and take none]");
        ProgramFacts x = new ProgramFacts();
        x.edit(0, Make.NEW, 3, 2);
        x.step(0);
        x.relation(1);
        x.fact(9, 0, 0, true);
        Make.rule(x, 9, 1, 0);
        x.forget(6);
        DUE.is("objects()", x.objects(), 1);
        DUE.is("site(3)", x.site(3), 2);
    }
}
