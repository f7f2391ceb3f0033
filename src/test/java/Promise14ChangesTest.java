/** Promise 14: changes. */
public final class Promise14ChangesTest {
    private static final int A = Make.A;
    private static final int B = Make.B;
    private static final int C = Make.C;
    private static final Due DUE = new Due("Promise14ChangesTest");

    public static void main(String[] args) {
        whenThereWasNone();
        thereNow();
        notThereNow();
        bothAtOnce();
        ofAllRelations();
        theMost();
        theLatestAlone();
        withoutAChange();
        refusedOnes();
        otherCalls();
        DUE.end();
    }

    private static void whenThereWasNone() {
        DUE.sentence("0 when there was none");
        ProgramFacts x = new ProgramFacts();
        DUE.is("new: changes()", x.changes(), 0);
        x.relation(2);
        x.literal(9, 0, 0, false);
        x.fact(10, 0, 0, true);
        x.edit(12, 0, 0, 0);
        x.forget(6);
        x.step(0);
        x.literal(9, 0, 0, true);
        DUE.is("refused ones and others alone: changes()", x.changes(), 0);
        DUE.is("unstratified", x.rule(), -3);
        DUE.is("after it: changes()", x.changes(), 0);
    }

    private static void thereNow() {
        DUE.sentence("How many tuples [..] are there now and were not before");
        ProgramFacts x = Make.withRelations(2, 1);
        x.fact(9, 1, 2, true);
        DUE.is("fact: changes()", x.changes(), 1);
        Make.rule(x, 10, A, 0, 9, A, B, 0);
        DUE.is("rule: changes()", x.changes(), 1);
        x.fact(9, 2, 2, true);
        DUE.is("fact and what follows: changes()", x.changes(), 2);
        x.fact(9, 2, 3, true);
        DUE.is("fact and nothing more: changes()", x.changes(), 1);
        x.edit(0, Make.NEW, 0, 0);
        DUE.is("edit: changes()", x.changes(), 2);
        Make.rule(x, 10, 0, 0, 9, 5, 5, 1);
        DUE.is("a rule with negation: changes()", x.changes(), 1);
    }

    private static void notThereNow() {
        DUE.sentence("or were there and are not now");
        ProgramFacts x = Make.withRelations(2, 1);
        x.fact(9, 1, 2, true);
        Make.rule(x, 10, A, 0, 9, A, B, 0);
        Make.rule(x, 10, 4, 0);
        x.edit(0, Make.NEW, 0, 0);
        x.edit(1, Make.COPY, 1, 0);
        x.edit(2, Make.COPY, 2, 1);
        x.edit(0, Make.NONE, 0, 0);
        DUE.is("edit to none: changes()", x.changes(), 4);
        x.forget(7);
        DUE.is("forget: changes()", x.changes(), 1);
        x.fact(9, 1, 2, false);
        DUE.is("fact: changes()", x.changes(), 2);
    }

    private static void bothAtOnce() {
        DUE.sentence("are there now and were not before, or were there and are not now [both at once]");
        ProgramFacts x = Make.withRelations(1, 1, 1);
        x.edit(0, Make.NEW, 0, 3);
        x.edit(1, Make.COPY, 1, 0);
        x.edit(0, Make.NEW, 0, 4);
        DUE.is("NEW and two of POINTS, gone and come: changes()", x.changes(), 6);
        Make.rule(x, 10, 0, 0, 9, 0, 0, 1);
        Make.rule(x, 11, 0, 0, 10, 0, 0, 1);
        DUE.is("before: size(10)", x.size(10), 1);
        x.fact(9, 0, 0, true);
        DUE.is("9 comes, 10 goes, 11 comes: changes()", x.changes(), 3);
        x.fact(9, 0, 0, false);
        DUE.is("and back: changes()", x.changes(), 3);
        x.forget(6);
        DUE.is("10 goes, 11 comes: changes()", x.changes(), 2);
    }

    private static void ofAllRelations() {
        DUE.sentence("of all relations together");
        ProgramFacts x = Make.withRelations(2, 2, 2, 2, 2);
        for (int relation = 9; relation < 14; relation++) {
            Make.rule(x, relation, A, B, relation == 9 ? 6 : relation - 1, A, B, 0);
        }
        x.edit(0, Make.STORE0, 0, 0);
        x.edit(1, Make.STORE1, 0, 0);
        x.edit(2, Make.NEW, 0, 5);
        DUE.is("NEW, POINTS, HEAP0, HEAP1 and five of the user's: changes()", x.changes(), 9);
        x.edit(3, Make.LOAD0, 1, 0);
        DUE.is("LOAD0, POINTS and five: changes()", x.changes(), 7);
        x.edit(3, Make.LOAD1, 1, 0);
        DUE.is("LOAD0 goes, LOAD1 comes: changes()", x.changes(), 2);
        x.edit(2, Make.NONE, 0, 0);
        DUE.is("all goes: changes()", x.changes(), 9 + 6);
    }

    private static void theMost() {
        DUE.sentence("of all relations together [at the most]");
        ProgramFacts x = Make.withRelations(2, 2, 2, 2, 2);
        Make.rule(x, 9, A, B, 6, A, C, 0, 6, B, C, 0);
        for (int relation = 10; relation < 14; relation++) {
            Make.rule(x, relation, A, B, 9, A, B, 0);
        }
        for (int k = 0; k < 6; k++) {
            x.edit(k, Make.STORE0, k, k);
        }
        for (int k = 0; k < 5; k++) {
            x.edit(6 + k, Make.COPY, k + 1, k);
        }
        x.edit(11, Make.NEW, 0, 0);
        DUE.is("NEW, six of POINTS, HEAP0 and five full ones: changes()", x.changes(), 8 + 5 * 36);
        x.edit(11, Make.NONE, 0, 0);
        DUE.is("all goes: changes()", x.changes(), 8 + 5 * 36);
    }

    private static void theLatestAlone() {
        DUE.sentence("by the latest call of fact, rule, forget or edit");
        ProgramFacts x = Make.withRelations(2, 2);
        Make.fill(x, 9);
        DUE.is("fact: changes()", x.changes(), 1);
        Make.rule(x, 10, A, B, 9, A, B, 0);
        DUE.is("rule: changes()", x.changes(), 36);
        x.edit(0, Make.NEW, 0, 0);
        DUE.is("edit: changes()", x.changes(), 2);
        x.forget(6);
        DUE.is("forget: changes()", x.changes(), 36);
        x.fact(9, 0, 0, false);
        DUE.is("fact again: changes()", x.changes(), 1);
        DUE.is("asked again: changes()", x.changes(), 1);
    }

    private static void withoutAChange() {
        DUE.sentence("by the latest call [.. that was not refused, though nothing came or went]");
        ProgramFacts x = Make.withRelations(1);
        x.edit(0, Make.NEW, 0, 0);
        x.edit(0, Make.NEW, 0, 0);
        DUE.is("the same statement: changes()", x.changes(), 0);
        x.edit(1, Make.COPY, 0, 0);
        x.edit(5, Make.NEW, 0, 0);
        DUE.is("a fact that is one already: changes()", x.changes(), 0);
        x.edit(1, Make.COPY, 1, 0);
        x.edit(8, Make.NONE, 0, 0);
        DUE.is("no statement where none was: changes()", x.changes(), 0);
        x.fact(9, 1, 0, true);
        Make.rule(x, 9, 1, 0);
        DUE.is("a rule that adds nothing: changes()", x.changes(), 0);
        x.fact(9, 2, 0, true);
        x.forget(6);
        DUE.is("a rule that took nothing along: changes()", x.changes(), 0);
        Make.rule(x, 9, 1, 0);
        x.fact(9, 3, 0, true);
        x.fact(9, 1, 0, false);
        DUE.is("a fact that a rule gives, too: changes()", x.changes(), 0);
    }

    private static void refusedOnes() {
        DUE.sentence("that was not refused");
        ProgramFacts x = Make.withRelations(1, 1);
        Make.rule(x, 10, A, 0, 9, A, 0, 0);
        x.fact(9, 0, 0, true);
        DUE.is("changes()", x.changes(), 2);
        DUE.is("fact, so already", x.fact(9, 0, 0, true), false);
        DUE.is("after it: changes()", x.changes(), 2);
        DUE.is("fact, a wrong value", x.fact(9, 6, 0, true), false);
        DUE.is("after it: changes()", x.changes(), 2);
        DUE.is("fact, no such relation", x.fact(11, 0, 0, true), false);
        DUE.is("after it: changes()", x.changes(), 2);
        DUE.is("rule of none", x.rule(), -1);
        DUE.is("after it: changes()", x.changes(), 2);
        DUE.is("rule, unsafe", Make.rule(x, 9, A, 0), -2);
        DUE.is("after it: changes()", x.changes(), 2);
        DUE.is("rule, unstratified", Make.rule(x, 9, 0, 0, 10, 0, 0, 1), -3);
        DUE.is("after it: changes()", x.changes(), 2);
        DUE.is("forget, no such rule", x.forget(7), false);
        DUE.is("after it: changes()", x.changes(), 2);
        DUE.is("edit, no such line", x.edit(12, 0, 0, 0), -1);
        DUE.is("after it: changes()", x.changes(), 2);
        DUE.is("edit, no such operation", x.edit(0, 6, 0, 0), -1);
        DUE.is("after it: changes()", x.changes(), 2);
        DUE.is("edit, a wrong value", x.edit(0, 0, 6, 0), -1);
        DUE.is("after it: changes()", x.changes(), 2);
        for (int k = 0; k < 7; k++) {
            Make.rule(x, 9, 1, 0);
        }
        x.fact(9, 2, 0, true);
        DUE.is("a ninth rule", Make.rule(x, 9, 3, 0), -1);
        DUE.is("after it: changes()", x.changes(), 2);
    }

    private static void otherCalls() {
        DUE.sentence("the latest call of fact, rule, forget or edit [no other call]");
        ProgramFacts x = Make.withRelations(1);
        x.edit(0, Make.NEW, 0, 0);
        x.relation(2);
        DUE.is("after relation: changes()", x.changes(), 2);
        x.literal(9, 0, 0, false);
        DUE.is("after literal: changes()", x.changes(), 2);
        x.step(0);
        DUE.is("after step: changes()", x.changes(), 2);
        x.holds(6, 0, 0);
        x.size(6);
        x.tuple(6, 0);
        x.ways(6, 0, 0);
        x.stratum(6);
        x.line(0, 0, 0);
        x.site(0);
        x.objects();
        DUE.is("after queries: changes()", x.changes(), 2);
    }
}
