/** Promise 1: a new object. */
public final class Promise01NewObjectTest {
    private static final Due DUE = new Due("Promise01NewObjectTest");

    public static void main(String[] args) {
        noStatements();
        noRelationsOfTheUsers();
        noRulesOfTheUsers();
        noLiteralsGiven();
        noObjects();
        besideAUsedOne();
        DUE.end();
    }

    private static void noStatements() {
        DUE.sentence("No statements");
        for (int line = 0; line < 12; line++) {
            ProgramFacts x = new ProgramFacts();
            DUE.is("step(" + line + ")", x.step(line), false);
            DUE.is("the first edit, of line " + line, x.edit(line, Make.NEW, 0, 0), 1);
        }
        ProgramFacts x = new ProgramFacts();
        DUE.is("an edit to none", x.edit(0, Make.NONE, 0, 0), 0);
        for (int relation = 0; relation < 9; relation++) {
            DUE.is("size(" + relation + ")", x.size(relation), 0);
            DUE.is("tuple(" + relation + ", 0)", x.tuple(relation, 0), -1);
            DUE.is("holds(" + relation + ", 0, 0)", x.holds(relation, 0, 0), false);
            DUE.is("ways(" + relation + ", 0, 0)", x.ways(relation, 0, 0), 0);
            DUE.is("line(" + relation + ", 0, 0)", x.line(relation, 0, 0), -1);
            DUE.is("stratum(" + relation + ")", x.stratum(relation), 0);
        }
    }

    private static void noRelationsOfTheUsers() {
        DUE.sentence("none of the user's relations");
        ProgramFacts x = new ProgramFacts();
        for (int relation = 9; relation < 14; relation++) {
            DUE.is("size(" + relation + ")", x.size(relation), -1);
            DUE.is("stratum(" + relation + ")", x.stratum(relation), -1);
            DUE.is("tuple(" + relation + ", 0)", x.tuple(relation, 0), -1);
            DUE.is("ways(" + relation + ", 0, 0)", x.ways(relation, 0, 0), -1);
            DUE.is("holds(" + relation + ", 0, 0)", x.holds(relation, 0, 0), false);
            DUE.is("fact(" + relation + ", 0, 0, true)", x.fact(relation, 0, 0, true), false);
            DUE.is("literal(" + relation + ", 0, 0, false)", x.literal(relation, 0, 0, false), -1);
        }
        DUE.is("the first relation(2)", x.relation(2), 9);
    }

    private static void noRulesOfTheUsers() {
        DUE.sentence("none of the user's [..] rules");
        ProgramFacts x = new ProgramFacts();
        for (int rule = 6; rule < 14; rule++) {
            DUE.is("forget(" + rule + ")", x.forget(rule), false);
        }
        x.relation(1);
        DUE.is("no rule fills it: size(9)", x.size(9), 0);
        DUE.is("the first rule()", Make.rule(x, 9, 0, 0), 6);
    }

    private static void noLiteralsGiven() {
        DUE.sentence("no literals given");
        DUE.is("rule()", new ProgramFacts().rule(), -1);
        ProgramFacts x = Make.withRelations(2);
        DUE.is("the first literal", x.literal(9, 0, 0, false), 1);
    }

    private static void noObjects() {
        DUE.sentence("At the beginning [..] there are no objects, and all variables hold none");
        ProgramFacts x = new ProgramFacts();
        DUE.is("objects()", x.objects(), 0);
        for (int variable = 0; variable < 6; variable++) {
            DUE.is("site(" + variable + ")", x.site(variable), -1);
        }
    }

    private static void besideAUsedOne() {
        DUE.sentence("A new object [beside one that is in use]");
        ProgramFacts used = Make.withRelations(1, 2, 1, 2, 1);
        used.fact(9, 0, 0, true);
        Make.rule(used, 10, 1, 1);
        used.edit(0, Make.NEW, 0, 1);
        used.step(0);
        used.literal(9, 2, 0, false);
        ProgramFacts x = new ProgramFacts();
        DUE.is("size(0)", x.size(0), 0);
        DUE.is("size(9)", x.size(9), -1);
        DUE.is("forget(6)", x.forget(6), false);
        DUE.is("step(0)", x.step(0), false);
        DUE.is("objects()", x.objects(), 0);
        DUE.is("site(0)", x.site(0), -1);
        DUE.is("changes()", x.changes(), 0);
        DUE.is("rule()", x.rule(), -1);
        DUE.is("relation(2)", x.relation(2), 9);
        DUE.is("the used one: arity of 9 is still 1", used.holds(9, 0, 6), true);
        DUE.is("the used one: objects()", used.objects(), 1);
        DUE.is("the used one: rule()", used.rule(), 7);
    }
}
