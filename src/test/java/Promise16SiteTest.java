/** Promise 16: site. */
public final class Promise16SiteTest {
    private static final Due DUE = new Due("Promise16SiteTest");

    public static void main(String[] args) {
        allSites();
        whenItHoldsNone();
        afterEachEdit();
        noSuchVariable();
        DUE.end();
    }

    private static void allSites() {
        DUE.sentence("The site of the object that a variable of the program holds");
        for (int shift = 0; shift < 6; shift++) {
            ProgramFacts x = new ProgramFacts();
            for (int variable = 0; variable < 6; variable++) {
                x.edit(variable, Make.NEW, variable, (variable + shift) % 6);
            }
            for (int variable = 0; variable < 6; variable++) {
                x.step(variable);
                for (int other = 0; other < 6; other++) {
                    DUE.is("site(" + other + ")", x.site(other), other <= variable ? (other + shift) % 6 : -1);
                }
            }
        }
    }

    private static void whenItHoldsNone() {
        DUE.sentence("NONE when it holds none");
        ProgramFacts x = new ProgramFacts();
        x.edit(0, Make.NEW, 0, 0);
        x.edit(1, Make.COPY, 0, 1);
        x.edit(2, Make.LOAD1, 0, 0);
        for (int variable = 0; variable < 6; variable++) {
            DUE.is("at the beginning: site(" + variable + ")", x.site(variable), -1);
        }
        for (int line = 1; line <= 2; line++) {
            x.step(0);
            DUE.is("site(0)", x.site(0), 0);
            x.step(line);
            DUE.is("site(0) of none", x.site(0), -1);
        }
    }

    private static void afterEachEdit() {
        DUE.sentence("after each edit [..] all variables hold none");
        for (int line = 0; line < 12; line++) {
            ProgramFacts x = new ProgramFacts();
            for (int variable = 0; variable < 6; variable++) {
                x.edit(variable, Make.NEW, variable, 5);
            }
            for (int variable = 0; variable < 6; variable++) {
                x.step(variable);
            }
            x.edit(line, line % 2 == 0 ? Make.NONE : Make.STORE0, 0, 0);
            for (int variable = 0; variable < 6; variable++) {
                DUE.is("site(" + variable + ")", x.site(variable), -1);
            }
        }
        ProgramFacts x = new ProgramFacts();
        x.edit(0, Make.NEW, 0, 3);
        x.step(0);
        x.edit(0, Make.NEW, 0, 3);
        DUE.is("the same statement again: site(0)", x.site(0), -1);
        x.step(0);
        x.edit(0, 6, 0, 0);
        DUE.is("a refused edit is none: site(0)", x.site(0), 3);
    }

    private static void noSuchVariable() {
        DUE.sentence("NONE when [..] there is no such variable");
        ProgramFacts x = new ProgramFacts();
        for (int variable = 0; variable < 6; variable++) {
            x.edit(variable, Make.NEW, variable, variable);
        }
        for (int variable = 0; variable < 6; variable++) {
            x.step(variable);
        }
        for (int variable : Wrong.outside(0, 5)) {
            DUE.is("site(" + variable + ")", x.site(variable), -1);
        }
    }
}
