import java.util.Random;

/** Long random runs of calls, each answer compared with the oracle's. The seeds are fixed. */
public final class RandomRunsTest {
    private static final int RUNS = 120;
    private static final int CALLS = 512;
    private static final int[] EXTREMES = {Integer.MIN_VALUE, -2, -1, 6, 9, 14, 20, 36, Integer.MAX_VALUE};

    private static final Due DUE = new Due("RandomRunsTest");
    private static int made = 0;
    private static int unsafe = 0;
    private static int unstratified = 0;
    private static int highest = 0;

    private final Random random;
    private final int wildness;
    private final ProgramFacts facts = new ProgramFacts();
    private final Oracle oracle = new Oracle();

    private RandomRunsTest(int seed) {
        random = new Random(seed);
        // Some runs are all sound calls: a wrong one in ten would keep their programs small.
        wildness = seed % 3 == 0 ? 0 : 40;
    }

    public static void main(String[] args) {
        for (int seed = 0; seed < RUNS && DUE.allRight(); seed++) {
            RandomRunsTest run = new RandomRunsTest(seed);
            run.startWithRelations(seed % 4);
            for (int call = 0; call < CALLS && DUE.allRight(); call++) {
                run.callSomething("run " + seed + ", call " + call + ": ");
            }
            run.compareAll("run " + seed + ", end: ");
        }
        // Without these the runs would be too tame to tell anything.
        DUE.is("many rules made", made > 500, true);
        DUE.is("many rules unsafe", unsafe > 100, true);
        DUE.is("many rules unstratified", unstratified > 50, true);
        DUE.is("high strata", highest >= 3, true);
        System.out.println("rules made " + made + ", unsafe " + unsafe + ", unstratified " + unstratified
            + ", highest stratum " + highest);
        DUE.end();
    }

    private void startWithRelations(int count) {
        for (int k = 0; k < count; k++) {
            int arity = random.nextInt(4) == 0 ? 1 : 2;
            DUE.is("relation(" + arity + ")", facts.relation(arity), oracle.relation(arity));
        }
    }

    private int upTo(int bound) {
        if (wildness > 0 && random.nextInt(wildness) == 0) {
            return EXTREMES[random.nextInt(EXTREMES.length)];
        }
        return random.nextInt(bound);
    }

    private int anyRelation() {
        return random.nextInt(3) == 0 ? 6 + random.nextInt(3) : upTo(oracle.arities.size());
    }

    private int usersRelation() {
        return 9 + upTo(5);
    }

    /** Often one below the head, so that strata can rise. */
    private int bodyRelation(int head) {
        int kind = random.nextInt(4);
        return kind == 0 ? usersRelation() : kind == 1 ? anyRelation() : Math.max(6, head - 1);
    }

    private int term() {
        // Mostly A and B: with four variables alike, nearly every rule would be unsafe.
        return random.nextInt(6) == 0 ? upTo(6) : 10 + upTo(random.nextInt(4) == 0 ? 4 : 2);
    }

    private void callSomething(String where) {
        int kind = random.nextInt(24);
        if (kind < 3) {
            change(where);
        } else if (kind < 7) {
            edit(where);
        } else if (kind < 9) {
            makeRule(where);
        } else if (kind < 11) {
            int rule = 6 + upTo(8);
            if (random.nextInt(3) == 0) {
                DUE.is(where + "forget(" + rule + ")", facts.forget(rule), oracle.forget(rule));
            }
        } else if (kind < 15) {
            int line = upTo(12);
            DUE.is(where + "step(" + line + ")", facts.step(line), oracle.step(line));
        } else {
            query(where, kind);
        }
        DUE.is(where + "changes()", facts.changes(), oracle.changes());
        DUE.is(where + "objects()", facts.objects(), oracle.objects());
    }

    private void change(String where) {
        if (random.nextInt(8) == 0) {
            int arity = 1 + upTo(2);
            DUE.is(where + "relation(" + arity + ")", facts.relation(arity), oracle.relation(arity));
            return;
        }
        int relation = usersRelation();
        int a = upTo(6);
        int b = upTo(6);
        boolean there = random.nextInt(3) != 0;
        DUE.is(where + "fact(" + relation + ", " + a + ", " + b + ", " + there + ")",
            facts.fact(relation, a, b, there), oracle.fact(relation, a, b, there));
    }

    private void edit(String where) {
        int line = upTo(12);
        int operation = upTo(7) - 1;
        int x = upTo(6);
        int y = upTo(6);
        DUE.is(where + "edit(" + line + ", " + operation + ", " + x + ", " + y + ")",
            facts.edit(line, operation, x, y), oracle.edit(line, operation, x, y));
    }

    private void makeRule(String where) {
        int literals = random.nextInt(10) == 0 ? random.nextInt(6) : 2 + random.nextInt(3);
        int head = usersRelation();
        for (int k = 0; k < literals; k++) {
            int relation = k == 0 ? head : bodyRelation(head);
            int a = k < 2 && random.nextInt(2) == 0 ? 10 : term();
            int b = k < 2 && random.nextInt(2) == 0 ? 11 : term();
            boolean negated = k == 0 ? random.nextInt(20) == 0 : k > 1 && random.nextInt(2) == 0;
            DUE.is(where + "literal(" + relation + ", " + a + ", " + b + ", " + negated + ")",
                facts.literal(relation, a, b, negated), oracle.literal(relation, a, b, negated));
        }
        if (random.nextInt(20) != 0) {
            int want = oracle.rule();
            DUE.is(where + "rule()", facts.rule(), want);
            made += want >= 0 ? 1 : 0;
            highest = Math.max(highest, oracle.stratum(head));
            unsafe += want == -2 ? 1 : 0;
            unstratified += want == -3 ? 1 : 0;
        }
    }

    private void query(String where, int kind) {
        int relation = anyRelation();
        int a = upTo(6);
        int b = upTo(6);
        String triple = "(" + relation + ", " + a + ", " + b + ")";
        switch (kind) {
            case 15, 16 -> DUE.is(where + "holds" + triple,
                facts.holds(relation, a, b), oracle.holds(relation, a, b));
            case 17 -> DUE.is(where + "size(" + relation + ")", facts.size(relation), oracle.size(relation));
            case 18 -> {
                int k = upTo(12);
                DUE.is(where + "tuple(" + relation + ", " + k + ")",
                    facts.tuple(relation, k), oracle.tuple(relation, k));
            }
            case 19, 20 -> DUE.is(where + "ways" + triple,
                facts.ways(relation, a, b), oracle.ways(relation, a, b));
            case 21 -> DUE.is(where + "stratum(" + relation + ")",
                facts.stratum(relation), oracle.stratum(relation));
            case 22 -> {
                int operation = upTo(6);
                DUE.is(where + "line(" + operation + ", " + a + ", " + b + ")",
                    facts.line(operation, a, b), oracle.line(operation, a, b));
            }
            default -> DUE.is(where + "site(" + a + ")", facts.site(a), oracle.site(a));
        }
    }

    private void compareAll(String where) {
        for (int relation = -1; relation < 15; relation++) {
            DUE.is(where + "size(" + relation + ")", facts.size(relation), oracle.size(relation));
            DUE.is(where + "stratum(" + relation + ")", facts.stratum(relation), oracle.stratum(relation));
            for (int k = 0; k < 37; k++) {
                DUE.is(where + "tuple(" + relation + ", " + k + ")",
                    facts.tuple(relation, k), oracle.tuple(relation, k));
            }
            for (int a = 0; a < 6; a++) {
                for (int b = 0; b < 6; b++) {
                    String triple = "(" + relation + ", " + a + ", " + b + ")";
                    DUE.is(where + "ways" + triple, facts.ways(relation, a, b), oracle.ways(relation, a, b));
                    DUE.is(where + "line" + triple, facts.line(relation, a, b), oracle.line(relation, a, b));
                }
            }
        }
    }
}
