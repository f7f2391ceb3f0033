/** Promise 13: line. */
public final class Promise13LineTest {
    private static final Due DUE = new Due("Promise13LineTest");

    public static void main(String[] args) {
        eachLine();
        theLeast();
        theLeastOfAll();
        ofTheOperationAlone();
        whenNoneDoes();
        factsOfTheUsers();
        wrongArguments();
        linesWithoutStatements();
        DUE.end();
    }

    private static void eachLine() {
        DUE.sentence("The [..] line whose statement gives a tuple as a fact");
        ProgramFacts x = new ProgramFacts();
        for (int line = 0; line < 12; line++) {
            x.edit(line, line % 6, line / 6, 5 - line % 6);
        }
        for (int line = 0; line < 12; line++) {
            DUE.is("line " + line, x.line(line % 6, line / 6, 5 - line % 6), line);
            DUE.is("x and y turned", x.line(line % 6, 5 - line % 6, line / 6),
                line == 5 ? 5 : line == 10 ? 10 : -1);
        }
    }

    private static void theLeast() {
        DUE.sentence("The least line");
        ProgramFacts x = new ProgramFacts();
        x.edit(9, Make.COPY, 1, 2);
        DUE.is("one", x.line(Make.COPY, 1, 2), 9);
        x.edit(11, Make.COPY, 1, 2);
        DUE.is("a greater one comes", x.line(Make.COPY, 1, 2), 9);
        x.edit(4, Make.COPY, 1, 2);
        DUE.is("a less one comes", x.line(Make.COPY, 1, 2), 4);
        x.edit(4, Make.LOAD0, 1, 2);
        DUE.is("it goes", x.line(Make.COPY, 1, 2), 9);
        x.edit(9, Make.NONE, 0, 0);
        DUE.is("the next goes", x.line(Make.COPY, 1, 2), 11);
        x.edit(11, Make.COPY, 2, 1);
        DUE.is("the last goes", x.line(Make.COPY, 1, 2), -1);
    }

    private static void theLeastOfAll() {
        DUE.sentence("The least line [of twelve]");
        ProgramFacts x = new ProgramFacts();
        for (int line = 11; line >= 0; line--) {
            x.edit(line, Make.STORE1, 5, 5);
            DUE.is("line(5, 5, 5)", x.line(Make.STORE1, 5, 5), line);
        }
        for (int line = 0; line < 12; line++) {
            x.edit(line, Make.NONE, 0, 0);
            DUE.is("line(5, 5, 5) after", x.line(Make.STORE1, 5, 5), line < 11 ? line + 1 : -1);
        }
    }

    private static void ofTheOperationAlone() {
        DUE.sentence("whose statement gives a tuple [of that relation]");
        for (int operation = 0; operation < 6; operation++) {
            ProgramFacts x = new ProgramFacts();
            x.edit(7, operation, 2, 4);
            for (int relation = 0; relation < 9; relation++) {
                DUE.is("line(" + relation + ", 2, 4)", x.line(relation, 2, 4), relation == operation ? 7 : -1);
            }
            for (int a = 0; a < 6; a++) {
                for (int b = 0; b < 6; b++) {
                    DUE.is("line(.., " + a + ", " + b + ")", x.line(operation, a, b),
                        a == 2 && b == 4 ? 7 : -1);
                }
            }
        }
    }

    private static void whenNoneDoes() {
        DUE.sentence("NONE when none does [but a rule gives the tuple]");
        ProgramFacts x = new ProgramFacts();
        x.edit(0, Make.NEW, 0, 0);
        x.edit(1, Make.STORE0, 0, 0);
        x.edit(2, Make.STORE1, 0, 0);
        for (int relation = 6; relation < 9; relation++) {
            DUE.is("holds(" + relation + ", 0, 0)", x.holds(relation, 0, 0), true);
            DUE.is("line(" + relation + ", 0, 0)", x.line(relation, 0, 0), -1);
        }
    }

    private static void factsOfTheUsers() {
        DUE.sentence("NONE when none does [but the user made it a fact]");
        ProgramFacts x = Make.withRelations(2, 1, 2, 1, 2);
        x.edit(0, Make.NEW, 0, 0);
        for (int relation = 9; relation < 14; relation++) {
            x.fact(relation, 0, 0, true);
            DUE.is("line(" + relation + ", 0, 0)", x.line(relation, 0, 0), -1);
        }
    }

    private static void wrongArguments() {
        DUE.sentence("NONE when none does [there being no such relation or value]");
        ProgramFacts x = new ProgramFacts();
        for (int line = 0; line < 6; line++) {
            x.edit(line, line, 0, 0);
            x.edit(6 + line, line, 5, 5);
        }
        for (int relation : Wrong.outside(0, 5)) {
            DUE.is("line(" + relation + ", 0, 0)", x.line(relation, 0, 0), -1);
            DUE.is("line(" + relation + ", 5, 5)", x.line(relation, 5, 5), -1);
        }
        for (int value : Wrong.outside(0, 5)) {
            for (int operation = 0; operation < 6; operation += 5) {
                for (int right = 0; right < 6; right += 5) {
                    String call = "line(" + operation + ", ";
                    DUE.is(call + value + ", " + right + ")", x.line(operation, value, right), -1);
                    DUE.is(call + right + ", " + value + ")", x.line(operation, right, value), -1);
                }
            }
        }
    }

    private static void linesWithoutStatements() {
        DUE.sentence("NONE when none does [a line without a statement gives nothing]");
        ProgramFacts x = new ProgramFacts();
        x.edit(3, Make.NEW, 2, 2);
        x.edit(3, Make.NONE, 2, 2);
        x.edit(4, Make.NONE, 0, 0);
        for (int relation = -1; relation < 6; relation++) {
            DUE.is("line(" + relation + ", 0, 0)", x.line(relation, 0, 0), -1);
            DUE.is("line(" + relation + ", 2, 2)", x.line(relation, 2, 2), -1);
        }
    }
}
