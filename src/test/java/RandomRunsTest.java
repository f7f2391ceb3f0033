import java.util.Random;

/**
 * Random runs of calls, each answer compared with the oracle's. The seeds are fixed, and no object gets
 * more than the 512 calls that the document speaks of.
 */
public final class RandomRunsTest {
    private static final int RUNS = 300;
    private static final int CALLS = 512;
    private static final int CALLS_TO_COMPARE = 140;
    private static final int CALLS_AT_ONCE = 8;
    private static final int[] EXTREMES = {Integer.MIN_VALUE, -2, -1, 6, 9, 14, 20, 36, Integer.MAX_VALUE};

    private static final Due DUE = new Due("RandomRunsTest");
    private static int made = 0;
    private static int unsafe = 0;
    private static int unstratified = 0;
    private static int highest = 0;

    private final Random random;
    private final int wildness;
    private final ProgramFacts facts = new ProgramFacts();
    private final Oracle oracle = new Oracle();
    private int calls = 0;

    private RandomRunsTest(int seed) {
        random = new Random(seed);
        // Some runs are all sound calls: a wrong one in ten would keep their programs small.
        wildness = seed % 3 == 0 ? 0 : 40;
    }

    public static void main(String[] args) {
        for (int seed = 0; seed < RUNS && DUE.allRight(); seed++) {
            RandomRunsTest run = new RandomRunsTest(seed);
            run.startWithRelations(seed % 4);
            while (run.calls < CALLS - CALLS_TO_COMPARE - CALLS_AT_ONCE && DUE.allRight()) {
                run.callSomething("run " + seed + ", call " + run.calls + ": ");
            }
            run.compareAll("run " + seed + ", end: ");
        }
        // Without these the runs would be too tame to tell anything.
        DUE.is("many rules made", made > 500, true);
        DUE.is("many rules unsafe", unsafe > 100, true);
        DUE.is("many rules unstratified", unstratified > 50, true);
        DUE.is("high strata", highest >= 3, true);
        System.out.println("rules made " + made + ", unsafe " + unsafe + ", unstratified " + unstratified
            + ", highest stratum " + highest);
        DUE.end();
    }

    private void startWithRelations(int count) {
        for (int k = 0; k < count; k++) {
            int arity = random.nextInt(4) == 0 ? 1 : 2;
            is("relation(" + arity + ")", facts.relation(arity), oracle.relation(arity));
        }
    }

    private void is(String call, long got, long want) {
        calls++;
        DUE.is(call, got, want);
    }

    private void is(String call, boolean got, boolean want) {
        is(call, got ? 1 : 0, want ? 1 : 0);
    }

    private int upTo(int bound) {
        if (wildness > 0 && random.nextInt(wildness) == 0) {
            return EXTREMES[random.nextInt(EXTREMES.length)];
        }
        return random.nextInt(bound);
    }

    private int anyRelation() {
        return random.nextInt(3) == 0 ? 6 + random.nextInt(3) : upTo(oracle.arities.size());
    }

    private int usersRelation() {
        return 9 + upTo(5);
    }

    /** Often one below the head, so that strata can rise. */
    private int bodyRelation(int head) {
        int kind = random.nextInt(4);
        return kind == 0 ? usersRelation() : kind == 1 ? anyRelation() : Math.max(6, head - 1);
    }

    private int term() {
        // Mostly A and B: with four variables alike, nearly every rule would be unsafe.
        return random.nextInt(6) == 0 ? upTo(6) : 10 + upTo(random.nextInt(4) == 0 ? 4 : 2);
    }

    private void callSomething(String where) {
        int kind = random.nextInt(24);
        if (kind < 3) {
            change(where);
        } else if (kind < 7) {
            edit(where);
        } else if (kind < 9) {
            makeRule(where);
        } else if (kind < 11) {
            int rule = 6 + upTo(8);
            if (random.nextInt(3) == 0) {
                is(where + "forget(" + rule + ")", facts.forget(rule), oracle.forget(rule));
            }
        } else if (kind < 15) {
            int line = upTo(12);
            is(where + "step(" + line + ")", facts.step(line), oracle.step(line));
        } else {
            query(where, kind);
        }
        if (kind < 11) {
            is(where + "changes()", facts.changes(), oracle.changes());
        } else if (kind < 15) {
            is(where + "objects()", facts.objects(), oracle.objects());
        }
    }

    private void change(String where) {
        if (random.nextInt(8) == 0) {
            int arity = 1 + upTo(2);
            is(where + "relation(" + arity + ")", facts.relation(arity), oracle.relation(arity));
            return;
        }
        int relation = usersRelation();
        int a = upTo(6);
        int b = upTo(6);
        boolean there = random.nextInt(3) != 0;
        is(where + "fact(" + relation + ", " + a + ", " + b + ", " + there + ")",
            facts.fact(relation, a, b, there), oracle.fact(relation, a, b, there));
    }

    private void edit(String where) {
        int line = upTo(12);
        int operation = upTo(7) - 1;
        int x = upTo(6);
        int y = upTo(6);
        is(where + "edit(" + line + ", " + operation + ", " + x + ", " + y + ")",
            facts.edit(line, operation, x, y), oracle.edit(line, operation, x, y));
    }

    private void makeRule(String where) {
        int literals = random.nextInt(10) == 0 ? random.nextInt(6) : 2 + random.nextInt(3);
        int head = usersRelation();
        for (int k = 0; k < literals; k++) {
            int relation = k == 0 ? head : bodyRelation(head);
            int a = k < 2 && random.nextInt(2) == 0 ? 10 : term();
            int b = k < 2 && random.nextInt(2) == 0 ? 11 : term();
            boolean negated = k == 0 ? random.nextInt(20) == 0 : k > 1 && random.nextInt(2) == 0;
            is(where + "literal(" + relation + ", " + a + ", " + b + ", " + negated + ")",
                facts.literal(relation, a, b, negated), oracle.literal(relation, a, b, negated));
        }
        if (random.nextInt(20) != 0) {
            int want = oracle.rule();
            is(where + "rule()", facts.rule(), want);
            made += want >= 0 ? 1 : 0;
            highest = Math.max(highest, oracle.stratum(head));
            unsafe += want == -2 ? 1 : 0;
            unstratified += want == -3 ? 1 : 0;
        }
    }

    private void query(String where, int kind) {
        int relation = anyRelation();
        int a = upTo(6);
        int b = upTo(6);
        String triple = "(" + relation + ", " + a + ", " + b + ")";
        switch (kind) {
            case 15, 16 -> is(where + "holds" + triple,
                facts.holds(relation, a, b), oracle.holds(relation, a, b));
            case 17 -> is(where + "size(" + relation + ")", facts.size(relation), oracle.size(relation));
            case 18 -> {
                int k = upTo(12);
                is(where + "tuple(" + relation + ", " + k + ")",
                    facts.tuple(relation, k), oracle.tuple(relation, k));
            }
            case 19, 20 -> is(where + "ways" + triple,
                facts.ways(relation, a, b), oracle.ways(relation, a, b));
            case 21 -> is(where + "stratum(" + relation + ")",
                facts.stratum(relation), oracle.stratum(relation));
            case 22 -> {
                int operation = upTo(6);
                is(where + "line(" + operation + ", " + a + ", " + b + ")",
                    facts.line(operation, a, b), oracle.line(operation, a, b));
            }
            default -> is(where + "site(" + a + ")", facts.site(a), oracle.site(a));
        }
    }

    /** The sizes and strata, and as much of the tuples and their ways as the calls left allow. */
    private void compareAll(String where) {
        for (int relation = -1; relation < 15; relation++) {
            is(where + "size(" + relation + ")", facts.size(relation), oracle.size(relation));
            is(where + "stratum(" + relation + ")", facts.stratum(relation), oracle.stratum(relation));
        }
        while (calls < CALLS && DUE.allRight()) {
            int relation = random.nextInt(14);
            int k = random.nextInt(1 + Math.max(1, oracle.size(relation)));
            int tuple = oracle.tuple(relation, k);
            is(where + "tuple(" + relation + ", " + k + ")", facts.tuple(relation, k), tuple);
            boolean one = tuple >= 0 && oracle.arities.get(relation) == 1;
            int a = tuple < 0 ? random.nextInt(6) : one ? tuple : tuple / 10;
            int b = tuple < 0 ? random.nextInt(6) : one ? 0 : tuple % 10;
            if (calls < CALLS) {
                is(where + "ways(" + relation + ", " + a + ", " + b + ")",
                    facts.ways(relation, a, b), oracle.ways(relation, a, b));
            }
        }
    }
}
