/** Promise 11: ways. */
public final class Promise11WaysTest {
    private static final int A = Make.A;
    private static final int B = Make.B;
    private static final int C = Make.C;
    private static final int D = Make.D;
    private static final Due DUE = new Due("Promise11WaysTest");

    public static void main(String[] args) {
        instancesOfARule();
        instancesOfAllRules();
        valuesForEachVariable();
        largestNumber();
        negatedLiterals();
        oneMoreForAFact();
        ofTheLibrarys();
        tupleThatIsNotThere();
        noSuchRelation();
        wrongValues();
        secondOfArityOne();
        DUE.end();
    }

    private static void instancesOfARule() {
        DUE.sentence("the number of instances of rules whose body's literals all hold, and whose head it is");
        ProgramFacts x = Make.withRelations(2, 1);
        Make.rule(x, 10, A, 0, 9, A, B, 0);
        for (int b = 0; b < 6; b++) {
            x.fact(9, 0, b, true);
            DUE.is("ways(10, 0, 0)", x.ways(10, 0, 0), b + 1);
        }
        x.fact(9, 1, 3, true);
        DUE.is("ways(10, 1, 0)", x.ways(10, 1, 0), 1);
        DUE.is("ways(10, 2, 0)", x.ways(10, 2, 0), 0);
        DUE.is("ways(9, 1, 3)", x.ways(9, 1, 3), 1);
    }

    private static void instancesOfAllRules() {
        DUE.sentence("the number of instances of rules [of all rules together]");
        ProgramFacts x = Make.withRelations(2, 2);
        x.fact(9, 1, 1, true);
        x.fact(9, 1, 2, true);
        x.fact(9, 2, 1, true);
        Make.rule(x, 10, A, B, 9, A, B, 0);
        Make.rule(x, 10, A, B, 9, B, A, 0);
        Make.rule(x, 10, A, A, 9, A, A, 0);
        Make.rule(x, 10, 1, 1);
        Make.rule(x, 10, 1, B, 9, A, B, 0);
        DUE.is("ways(10, 1, 1)", x.ways(10, 1, 1), 1 + 1 + 1 + 1 + 2);
        DUE.is("ways(10, 1, 2)", x.ways(10, 1, 2), 1 + 1 + 1);
        DUE.is("ways(10, 2, 1)", x.ways(10, 2, 1), 1 + 1);
        DUE.is("ways(10, 2, 2)", x.ways(10, 2, 2), 0);
        x.forget(7);
        DUE.is("ways(10, 1, 2) without one rule", x.ways(10, 1, 2), 2);
        Make.rule(x, 10, A, B, 10, A, B, 0);
        DUE.is("a tuple can uphold itself, too: ways(10, 1, 2)", x.ways(10, 1, 2), 3);
        DUE.is("but not bring itself: ways(10, 5, 5)", x.ways(10, 5, 5), 0);
    }

    private static void valuesForEachVariable() {
        DUE.sentence("An INSTANCE of a rule gives a value to each variable that it has");
        ProgramFacts x = Make.withRelations(2, 1);
        Make.fill(x, 9);
        DUE.is("one variable", Make.rule(x, 10, 0, 0, 9, A, A, 0), 6);
        DUE.is("two", Make.rule(x, 10, 1, 0, 9, B, C, 0), 7);
        DUE.is("three", Make.rule(x, 10, 2, 0, 9, A, B, 0, 9, B, D, 0), 8);
        DUE.is("four", Make.rule(x, 10, 3, 0, 9, A, B, 0, 9, C, D, 0, 9, B, C, 0), 9);
        DUE.is("none", Make.rule(x, 10, 4, 0, 9, 1, 2, 0, 9, 3, 4, 0, 9, 5, 0, 0), 10);
        DUE.is("the same literal twice", Make.rule(x, 10, 5, 0, 9, A, B, 0, 9, A, B, 0), 11);
        int[] due = {6, 36, 216, 1296, 1, 36};
        for (int a = 0; a < 6; a++) {
            DUE.is("ways(10, " + a + ", 0)", x.ways(10, a, 0), due[a]);
        }
    }

    private static void largestNumber() {
        DUE.sentence("In how many ways a tuple is there [at the most]");
        ProgramFacts x = Make.withRelations(2, 2);
        Make.fill(x, 9);
        for (int k = 0; k < 8; k++) {
            Make.rule(x, 10, 5, 5, 9, A, B, 0, 9, C, D, 0);
        }
        x.fact(10, 5, 5, true);
        DUE.is("ways(10, 5, 5)", x.ways(10, 5, 5), 8 * 1296 + 1);
        DUE.is("size(10)", x.size(10), 1);
    }

    private static void negatedLiterals() {
        DUE.sentence("a positive literal holds when its tuple is in the relation, a negated one when it is not");
        ProgramFacts x = Make.withRelations(2, 2, 1);
        Make.fill(x, 9);
        x.fact(10, 0, 1, true);
        x.fact(10, 0, 2, true);
        Make.rule(x, 11, A, 0, 9, A, B, 0, 10, A, B, 1);
        DUE.is("ways(11, 0, 0)", x.ways(11, 0, 0), 4);
        DUE.is("ways(11, 1, 0)", x.ways(11, 1, 0), 6);
        Make.rule(x, 11, A, 0, 10, B, A, 1, 9, A, B, 0, 10, A, A, 1);
        DUE.is("ways(11, 0, 0) by two", x.ways(11, 0, 0), 4 + 6);
        DUE.is("ways(11, 1, 0) by two", x.ways(11, 1, 0), 6 + 5);
        x.fact(10, 1, 1, true);
        DUE.is("ways(11, 1, 0) after", x.ways(11, 1, 0), 5);
        Make.rule(x, 11, 5, 0, 9, A, B, 0, 9, A, B, 1);
        DUE.is("never both: ways(11, 5, 0)", x.ways(11, 5, 0), 6 + 6);
    }

    private static void oneMoreForAFact() {
        DUE.sentence("and 1 more if it is a fact");
        ProgramFacts x = Make.withRelations(2, 1);
        x.fact(9, 2, 3, true);
        DUE.is("a fact alone: ways(9, 2, 3)", x.ways(9, 2, 3), 1);
        Make.rule(x, 9, 2, 3);
        DUE.is("and by a rule: ways(9, 2, 3)", x.ways(9, 2, 3), 2);
        x.fact(9, 2, 3, false);
        DUE.is("by a rule alone: ways(9, 2, 3)", x.ways(9, 2, 3), 1);
        for (int line = 0; line < 12; line++) {
            x.edit(line, Make.COPY, 4, 5);
            DUE.is("a fact is one, whatever lines give it: ways(1, 4, 5)", x.ways(1, 4, 5), 1);
        }
        x.fact(10, 5, 0, true);
        DUE.is("arity 1: ways(10, 5, 0)", x.ways(10, 5, 0), 1);
    }

    private static void ofTheLibrarys() {
        DUE.sentence("the number of instances of rules [0 .. 5, too]");
        ProgramFacts x = new ProgramFacts();
        x.edit(0, Make.NEW, 0, 1);
        x.edit(1, Make.NEW, 1, 1);
        x.edit(2, Make.COPY, 2, 0);
        x.edit(3, Make.COPY, 2, 1);
        x.edit(4, Make.COPY, 2, 2);
        x.edit(5, Make.NEW, 2, 1);
        DUE.is("three copies and NEW: ways(6, 2, 1)", x.ways(6, 2, 1), 4);
        x.edit(6, Make.STORE0, 0, 1);
        x.edit(7, Make.STORE0, 2, 2);
        x.edit(8, Make.STORE1, 2, 2);
        DUE.is("two stores: ways(7, 1, 1)", x.ways(7, 1, 1), 2);
        DUE.is("a store: ways(8, 1, 1)", x.ways(8, 1, 1), 1);
        x.edit(9, Make.LOAD0, 5, 0);
        x.edit(10, Make.LOAD1, 5, 0);
        x.edit(11, Make.LOAD1, 5, 1);
        DUE.is("three loads: ways(6, 5, 1)", x.ways(6, 5, 1), 3);
        DUE.is("NEW: ways(6, 0, 1)", x.ways(6, 0, 1), 1);
    }

    private static void tupleThatIsNotThere() {
        DUE.sentence("In how many ways a tuple is there [in none]");
        ProgramFacts x = Make.withRelations(2, 1);
        Make.rule(x, 9, A, B, 6, A, B, 0);
        for (int relation = 0; relation < 11; relation++) {
            DUE.is("ways(" + relation + ", 0, 0)", x.ways(relation, 0, 0), 0);
            DUE.is("ways(" + relation + ", 5, 5)", x.ways(relation, 5, 5), 0);
        }
    }

    private static void noSuchRelation() {
        DUE.sentence("NONE when there is no such relation");
        ProgramFacts x = new ProgramFacts();
        for (int count = 0; count <= 5; count++) {
            for (int relation : Wrong.outside(0, 8 + count)) {
                DUE.is(count + " made: ways(" + relation + ", 0, 0)", x.ways(relation, 0, 0), -1);
            }
            for (int relation = 0; relation < 14; relation++) {
                DUE.is(count + " made: ways(" + relation + ", 0, 0)", x.ways(relation, 0, 0),
                    relation < 9 + count ? 0 : -1);
            }
            x.relation(1 + count % 2);
        }
    }

    private static void wrongValues() {
        DUE.sentence("NONE when [..] a value is not 0 .. 5");
        ProgramFacts x = Make.withRelations(2, 1);
        Make.rule(x, 9, 0, 0);
        for (int value : Wrong.outside(0, 5)) {
            for (int right = 0; right < 6; right += 5) {
                DUE.is("ways(9, " + value + ", " + right + ")", x.ways(9, value, right), -1);
                DUE.is("ways(9, " + right + ", " + value + ")", x.ways(9, right, value), -1);
                DUE.is("ways(6, " + value + ", " + right + ")", x.ways(6, value, right), -1);
                DUE.is("ways(0, " + right + ", " + value + ")", x.ways(0, right, value), -1);
            }
            DUE.is("ways(9, v, v) of " + value, x.ways(9, value, value), -1);
            DUE.is("ways(10, " + value + ", 0)", x.ways(10, value, 0), -1);
        }
    }

    private static void secondOfArityOne() {
        DUE.sentence("(b as in holds)");
        ProgramFacts x = Make.withRelations(1);
        x.fact(9, 2, 0, true);
        Make.rule(x, 9, 2, 0);
        for (int b : Wrong.outside(0, 5)) {
            DUE.is("ways(9, 2, " + b + ")", x.ways(9, 2, b), 2);
            DUE.is("ways(9, 3, " + b + ")", x.ways(9, 3, b), 0);
        }
        for (int b = 0; b < 6; b++) {
            DUE.is("ways(9, 2, " + b + ")", x.ways(9, 2, b), 2);
        }
    }
}
