import java.util.function.ToIntFunction;

/** "An object is used for at most 512 calls after it has been made": up to the last one it answers right. */
public final class LifeTest {
    private static final int CALLS = 512;
    private static final int A = Make.A;
    private static final int B = Make.B;
    private static final Due DUE = new Due("LifeTest");

    public static void main(String[] args) {
        theLastCall();
        onlyEdits();
        onlyFacts();
        onlyRules();
        onlyLiterals();
        onlySteps();
        onlyQueries();
        DUE.end();
    }

    private static void theLastCall() {
        DUE.sentence("An object is used for at most 512 calls [each call can be the last]");
        last("relation", x -> x.relation(1), 11);
        last("fact", x -> x.fact(9, 1, 1, true) ? 1 : 0, 1);
        last("literal", x -> x.literal(10, A, 0, false), 3);
        last("rule", ProgramFacts::rule, 8);
        last("forget", x -> x.forget(6) ? 1 : 0, 1);
        last("edit", x -> x.edit(2, 1, 2, 1), 3);
        last("holds", x -> x.holds(9, 1, 5) ? 1 : 0, 1);
        last("size", x -> x.size(6), 2);
        last("tuple", x -> x.tuple(9, 1), 15);
        last("ways", x -> x.ways(9, 0, 5), 1);
        last("stratum", x -> x.stratum(10), 1);
        last("line", x -> x.line(1, 1, 0), 1);
        last("changes", ProgramFacts::changes, 2);
        last("step", x -> x.step(1) ? 1 : 0, 1);
        last("site", x -> x.site(0), 5);
        last("objects", ProgramFacts::objects, 1);
    }

    /** Makes 18 calls, then such that turn two tuples to and fro, and at last, the 512th, the call. */
    private static void last(String name, ToIntFunction<ProgramFacts> call, int due) {
        ProgramFacts x = Make.withRelations(2, 1);
        Make.rule(x, 9, A, B, 6, A, B, 0);
        Make.rule(x, 10, A, 0, 6, A, A, 0, 9, A, A, 1);
        x.forget(7);
        Make.rule(x, 10, 0, 0, 9, 5, 5, 1);
        x.edit(0, Make.NEW, 0, 5);
        x.edit(1, Make.COPY, 1, 0);
        x.step(0);
        Make.give(x, 10, A, 0, 6, A, B, 0);
        for (int made = 18; made < CALLS - 1; made++) {
            x.fact(9, 5, 5, made % 2 == 1);
        }
        DUE.is("the last call, " + name, call.applyAsInt(x), due);
    }

    private static void onlyEdits() {
        DUE.sentence("An object is used for at most 512 calls [edits]");
        ProgramFacts x = new ProgramFacts();
        for (int k = 0; k < 11; k++) {
            x.edit(k, 1 + k % 5, k % 6, (k + 1) % 6);
        }
        for (int call = 12; call < CALLS; call++) {
            DUE.is("call " + call, x.edit(11, call % 2 == 0 ? Make.NEW : Make.NONE, 2, 2), call % 2 == 0 ? 12 : 11);
        }
        DUE.is("the last call, size(0)", x.size(0), 0);
    }

    private static void onlyFacts() {
        DUE.sentence("An object is used for at most 512 calls [facts]");
        ProgramFacts x = Make.withRelations(2);
        for (int call = 2; call < CALLS; call++) {
            int at = (call - 2) % 36;
            DUE.is("call " + call, x.fact(9, at / 6, at % 6, (call - 2) / 36 % 2 == 0), true);
        }
        // 510 facts are 14 rounds of 36, and 6 of a round that makes facts.
        DUE.is("the last call, size(9)", x.size(9), 6);
    }

    private static void onlyRules() {
        DUE.sentence("An object is used for at most 512 calls [rules]");
        ProgramFacts x = Make.withRelations(2, 2);
        x.fact(9, 3, 4, true);
        for (int round = 0; round < 127; round++) {
            x.literal(10, A, B, false);
            DUE.is("literal, round " + round, x.literal(9, A, B, round % 2 == 1), 2);
            DUE.is("rule, round " + round, x.rule(), round % 2 == 1 ? -2 : 6);
            DUE.is("forget, round " + round, x.forget(6), round % 2 == 0);
        }
        DUE.is("the last call, size(10)", x.size(10), 0);
    }

    private static void onlyLiterals() {
        DUE.sentence("An object is used for at most 512 calls [literals]");
        ProgramFacts x = Make.withRelations(2);
        for (int call = 2; call < CALLS; call++) {
            DUE.is("call " + call, x.literal(9, 0, 0, false), call < 6 ? call - 1 : -1);
        }
        DUE.is("the last call, rule()", x.rule(), 6);
    }

    private static void onlySteps() {
        DUE.sentence("An object is used for at most 512 calls [steps]");
        ProgramFacts x = new ProgramFacts();
        x.edit(0, Make.NEW, 0, 3);
        x.edit(1, Make.STORE0, 0, 0);
        x.edit(2, Make.LOAD0, 1, 0);
        for (int call = 4; call < CALLS; call++) {
            int line = (call - 4) % 3;
            DUE.is("call " + call, x.step(line), line != 0 || call < 64);
        }
        DUE.is("the last call, objects()", x.objects(), 20);
    }

    private static void onlyQueries() {
        DUE.sentence("An object is used for at most 512 calls [queries]");
        ProgramFacts x = new ProgramFacts();
        x.edit(0, Make.NEW, 0, 3);
        x.edit(1, Make.COPY, 1, 0);
        for (int call = 3; call <= CALLS; call++) {
            DUE.is("call " + call, x.ways(6, 1, call % 6), call % 6 == 3 ? 1 : 0);
        }
    }
}
