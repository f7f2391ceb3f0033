import java.util.Arrays;

/**
 * Answers queries about a small program: its lines give facts, rules say what follows from them,
 * and the program can be run. The document DOC.md says, promise by promise, what each call does.
 */
public final class ProgramFacts {

    /** Refused, or nothing there. */
    public static final int NONE = -1;
    /** The rule is not safe. */
    public static final int UNSAFE = -2;
    /** With the rule the rules are not stratified. */
    public static final int UNSTRATIFIED = -3;

    private static final int VALUES = 6;
    private static final int CELLS = VALUES * VALUES;
    private static final int LINES = 12;
    private static final int OBJECTS = 20;
    private static final int FIELDS = 2;

    private static final int NEW = 0;
    private static final int COPY = 1;
    private static final int LOAD0 = 2;
    private static final int STORE0 = 3;
    private static final int LOAD1 = 4;
    private static final int STORE1 = 5;
    private static final int OPERATIONS = 6;
    private static final int POINTS = 6;
    private static final int HEAP0 = 7;
    private static final int HEAP1 = 8;
    private static final int LIBRARY_RELATIONS = 9;
    private static final int RELATIONS = 14;

    private static final int A = 10;
    private static final int B = 11;
    private static final int C = 12;
    private static final int D = 13;
    private static final int TERMS = 14;
    private static final int BODY = 3;
    private static final int LITERALS = BODY + 1;
    private static final int LIBRARY_RULES = 6;
    private static final int RULES = 14;

    // The library's relations are all in stratum 0, and each of the user's five can add one more.
    private static final int STRATA = 1 + RELATIONS - LIBRARY_RELATIONS;
    // Each round but the last adds a tuple, and there are no more tuples than this.
    private static final int ROUNDS = RELATIONS * CELLS + 1;

    // A row is a rule: its head and three literals of its body, each a relation and two terms.
    private static final int[] LIBRARY = {
        POINTS, A, B,   NEW, A, B,      NONE, 0, 0,     NONE, 0, 0,
        POINTS, A, C,   COPY, A, B,     POINTS, B, C,   NONE, 0, 0,
        HEAP0, C, D,    STORE0, A, B,   POINTS, A, C,   POINTS, B, D,
        POINTS, A, D,   LOAD0, A, B,    POINTS, B, C,   HEAP0, C, D,
        HEAP1, C, D,    STORE1, A, B,   POINTS, A, C,   POINTS, B, D,
        POINTS, A, D,   LOAD1, A, B,    POINTS, B, C,   HEAP1, C, D,
    };

    private final Program program;
    private final Relations relations;
    private final RuleBook book;
    private final Derivation derivation;
    private final Run run;
    private int latestChanges;

    /** Promise 1. */
    public ProgramFacts() {
        program = new Program();
        relations = new Relations();
        book = new RuleBook();
        book.readLibrary();
        derivation = new Derivation();
        run = new Run();
        latestChanges = 0;
    }

    /** Promise 2. */
    public int relation(int arity) {
        boolean known = arity == 1 || arity == 2;
        return known && relations.count < RELATIONS ? relations.add(arity) : NONE;
    }

    /** Promise 3. */
    public boolean fact(int relation, int a, int b, boolean there) {
        int cell = relations.isUsers(relation) ? relations.cellOf(relation, a, b) : NONE;
        if (cell == NONE || relations.isFact(relation, cell) == there) {
            return false;
        }
        relations.turnFact(relation, cell);
        follow(1 << relation);
        return true;
    }

    /** Promise 4. */
    public int literal(int relation, int a, int b, boolean negated) {
        if (book.givenCount >= LITERALS || !relations.isThere(relation)) {
            return NONE;
        }
        if (book.givenCount == 0 && (negated || !relations.isUsers(relation))) {
            return NONE;
        }
        int second = relations.secondOf(relation, b);
        if (!isTerm(a) || !isTerm(second)) {
            return NONE;
        }
        book.give(relation, a, second, negated);
        return book.givenCount;
    }

    /** Promise 5. */
    public int rule() {
        int number = book.makeRule();
        book.dropGiven();
        if (number >= 0) {
            follow(1 << book.headOf(number));
        }
        return number;
    }

    /** Promise 6. */
    public boolean forget(int rule) {
        if (!book.isUsers(rule)) {
            return false;
        }
        book.remove(rule);
        book.stratify();
        follow(1 << book.headOf(rule));
        return true;
    }

    /** Promise 7. */
    public int edit(int line, int operation, int x, int y) {
        if (!isLine(line) || operation < NONE || operation >= OPERATIONS) {
            return NONE;
        }
        if (operation != NONE && !(isValue(x) && isValue(y))) {
            return NONE;
        }
        program.write(line, operation, x, y);
        run.restart();
        follow(readFacts());
        return program.countStatements();
    }

    /** Promise 8. */
    public boolean holds(int relation, int a, int b) {
        int cell = relations.cellOf(relation, a, b);
        return cell != NONE && relations.has(relation, cell);
    }

    /** Promise 9. */
    public int size(int relation) {
        return relations.isThere(relation) ? Long.bitCount(relations.tuples[relation]) : NONE;
    }

    /** Promise 10. */
    public int tuple(int relation, int k) {
        int cell = relations.isThere(relation) && k >= 0 ? relations.cellAt(relation, k) : NONE;
        if (cell == NONE) {
            return NONE;
        }
        int a = cell / VALUES;
        return relations.arity[relation] == 1 ? a : 10 * a + cell % VALUES;
    }

    /** Promise 11. */
    public int ways(int relation, int a, int b) {
        int cell = relations.cellOf(relation, a, b);
        if (cell == NONE) {
            return NONE;
        }
        int count = relations.isFact(relation, cell) ? 1 : 0;
        for (int number = 0; number < RULES; number++) {
            Rule rule = book.rules[number];
            if (rule.there && rule.head.relation == relation) {
                count += derivation.countInstances(relations, rule, cell);
            }
        }
        return count;
    }

    /** Promise 12. */
    public int stratum(int relation) {
        return relations.isThere(relation) ? book.strata[relation] : NONE;
    }

    /** Promise 13. */
    public int line(int relation, int a, int b) {
        return isOperation(relation) ? program.leastLine(relation, a, b) : NONE;
    }

    /** Promise 14. */
    public int changes() {
        return latestChanges;
    }

    /** Promise 15. */
    public boolean step(int line) {
        if (!isLine(line) || !isOperation(program.operation[line])) {
            return false;
        }
        return run.carryOut(program.operation[line], program.x[line], program.y[line]);
    }

    /** Promise 16. */
    public int site(int variable) {
        return isValue(variable) ? run.siteHeldBy(variable) : NONE;
    }

    /** Promise 17. */
    public int objects() {
        return run.made;
    }

    /** Takes the facts from the lines anew; answers the set of relations whose facts are others now. */
    private int readFacts() {
        int changed = 0;
        for (int operation = 0; operation < OPERATIONS; operation++) {
            long facts = program.factsOf(operation);
            if (facts != relations.facts[operation]) {
                relations.facts[operation] = facts;
                changed |= 1 << operation;
            }
        }
        return changed;
    }

    /** Sets right all that follows, after the facts or rules of a set of relations have changed. */
    private void follow(int changed) {
        int affected = book.affectedBy(changed);
        relations.remember();
        relations.returnToFacts(affected);
        for (int stratum = 0; stratum < STRATA; stratum++) {
            derivation.settle(relations, book, affected, stratum);
        }
        latestChanges = relations.countChanges();
    }

    private static boolean isValue(int value) {
        return value >= 0 && value < VALUES;
    }

    private static boolean isTerm(int term) {
        return isValue(term) || term >= A && term <= D;
    }

    private static boolean isLine(int line) {
        return line >= 0 && line < LINES;
    }

    private static boolean isOperation(int relation) {
        return relation >= 0 && relation < OPERATIONS;
    }

    private static int cell(int a, int b) {
        return a * VALUES + b;
    }

    private static boolean isIn(int relation, int set) {
        return (set >> relation & 1) != 0;
    }

    /** The lines and their statements; a line without one has the operation NONE. */
    private static final class Program {
        final int[] operation;
        final int[] x;
        final int[] y;

        Program() {
            operation = new int[LINES];
            x = new int[LINES];
            y = new int[LINES];
            Arrays.fill(operation, NONE);
        }

        void write(int line, int newOperation, int newX, int newY) {
            operation[line] = newOperation;
            x[line] = newX;
            y[line] = newY;
        }

        int countStatements() {
            int count = 0;
            for (int line = 0; line < LINES; line++) {
                if (operation[line] != NONE) {
                    count++;
                }
            }
            return count;
        }

        long factsOf(int relation) {
            long facts = 0;
            for (int line = 0; line < LINES; line++) {
                if (operation[line] == relation) {
                    facts |= 1L << cell(x[line], y[line]);
                }
            }
            return facts;
        }

        int leastLine(int relation, int a, int b) {
            for (int line = 0; line < LINES; line++) {
                if (operation[line] == relation && x[line] == a && y[line] == b) {
                    return line;
                }
            }
            return NONE;
        }
    }

    /**
     * The facts and the tuples of each relation, as sets of cells: the tuple (a, b) is bit 6 a + b.
     * A tuple of arity 1 is kept as (a, 0), so that only the face has to know of arities.
     */
    private static final class Relations {
        final int[] arity;
        final long[] facts;
        final long[] tuples;
        final long[] before;
        int count;

        Relations() {
            arity = new int[RELATIONS];
            facts = new long[RELATIONS];
            tuples = new long[RELATIONS];
            before = new long[RELATIONS];
            count = LIBRARY_RELATIONS;
            Arrays.fill(arity, 2);
        }

        int add(int newArity) {
            arity[count] = newArity;
            count++;
            return count - 1;
        }

        boolean isThere(int relation) {
            return relation >= 0 && relation < count;
        }

        boolean isUsers(int relation) {
            return relation >= LIBRARY_RELATIONS && relation < count;
        }

        /** The value or term that stands second: 0 where the arity leaves no room for one. */
        int secondOf(int relation, int b) {
            return arity[relation] == 1 ? 0 : b;
        }

        /** The cell of a tuple; NONE when there is no such relation or value. */
        int cellOf(int relation, int a, int b) {
            if (!isThere(relation)) {
                return NONE;
            }
            int second = secondOf(relation, b);
            return isValue(a) && isValue(second) ? cell(a, second) : NONE;
        }

        boolean has(int relation, int cell) {
            return (tuples[relation] >>> cell & 1) != 0;
        }

        boolean isFact(int relation, int cell) {
            return (facts[relation] >>> cell & 1) != 0;
        }

        void turnFact(int relation, int cell) {
            facts[relation] ^= 1L << cell;
        }

        int cellAt(int relation, int k) {
            int left = k;
            for (int cell = 0; cell < CELLS; cell++) {
                if (has(relation, cell)) {
                    if (left == 0) {
                        return cell;
                    }
                    left--;
                }
            }
            return NONE;
        }

        void remember() {
            System.arraycopy(tuples, 0, before, 0, RELATIONS);
        }

        /** Leaves just their facts to a set of relations. */
        void returnToFacts(int affected) {
            for (int relation = 0; relation < RELATIONS; relation++) {
                if (isIn(relation, affected)) {
                    tuples[relation] = facts[relation];
                }
            }
        }

        int countChanges() {
            int changes = 0;
            for (int relation = 0; relation < RELATIONS; relation++) {
                changes += Long.bitCount(before[relation] ^ tuples[relation]);
            }
            return changes;
        }
    }

    /** A relation with two terms; the second is the value 0 when the arity is 1. */
    private static final class Literal {
        int relation;
        int first;
        int second;
        boolean negated;

        void become(int newRelation, int newFirst, int newSecond, boolean newNegated) {
            relation = newRelation;
            first = newFirst;
            second = newSecond;
            negated = newNegated;
        }

        void copyOf(Literal other) {
            become(other.relation, other.first, other.second, other.negated);
        }

        /** The set of the rule's variables that stand in the literal. */
        int variables() {
            return (first >= A ? 1 << first : 0) | (second >= A ? 1 << second : 0);
        }
    }

    /**
     * A head and a body. The positive literals come first in the body: so each variable has its
     * value, and one tuple is left to try, when a negated one is looked at.
     */
    private static final class Rule {
        final Literal head;
        final Literal[] body;
        int length;
        int reads;
        boolean there;

        Rule() {
            head = new Literal();
            body = new Literal[BODY];
            for (int k = 0; k < BODY; k++) {
                body[k] = new Literal();
            }
        }

        void become(Literal[] given, int count) {
            head.copyOf(given[0]);
            length = 0;
            reads = 0;
            addToBody(given, count, false);
            addToBody(given, count, true);
            there = true;
        }

        private void addToBody(Literal[] given, int count, boolean negated) {
            for (int k = 1; k < count; k++) {
                if (given[k].negated == negated && length < BODY) {
                    body[length].copyOf(given[k]);
                    length++;
                    reads |= 1 << given[k].relation;
                }
            }
        }
    }

    /** The rules, the strata that they make, and the literals given for the next rule. */
    private static final class RuleBook {
        final Rule[] rules;
        final int[] strata;
        final int[] trial;
        final Literal[] given;
        int givenCount;

        RuleBook() {
            rules = new Rule[RULES];
            for (int number = 0; number < RULES; number++) {
                rules[number] = new Rule();
            }
            strata = new int[RELATIONS];
            trial = new int[RELATIONS];
            given = new Literal[LITERALS];
            for (int k = 0; k < LITERALS; k++) {
                given[k] = new Literal();
            }
        }

        void readLibrary() {
            for (int number = 0; number < LIBRARY_RULES; number++) {
                for (int k = 0; k < LITERALS; k++) {
                    int at = 3 * (number * LITERALS + k);
                    if (LIBRARY[at] != NONE) {
                        give(LIBRARY[at], LIBRARY[at + 1], LIBRARY[at + 2], false);
                    }
                }
                rules[number].become(given, givenCount);
                dropGiven();
            }
        }

        void give(int relation, int first, int second, boolean negated) {
            given[givenCount].become(relation, first, second, negated);
            givenCount++;
        }

        void dropGiven() {
            givenCount = 0;
        }

        /** Makes a rule of the given literals, unless it is refused; answers as the face does. */
        int makeRule() {
            int number = freeNumber();
            if (givenCount == 0 || number == NONE) {
                return NONE;
            }
            if (!givenIsSafe()) {
                return UNSAFE;
            }
            rules[number].become(given, givenCount);
            if (!stratify()) {
                remove(number);
                return UNSTRATIFIED;
            }
            return number;
        }

        private boolean givenIsSafe() {
            int bound = 0;
            int needed = given[0].variables();
            for (int k = 1; k < givenCount; k++) {
                if (given[k].negated) {
                    needed |= given[k].variables();
                } else {
                    bound |= given[k].variables();
                }
            }
            return (needed & ~bound) == 0;
        }

        private int freeNumber() {
            for (int number = LIBRARY_RULES; number < RULES; number++) {
                if (!rules[number].there) {
                    return number;
                }
            }
            return NONE;
        }

        boolean isUsers(int number) {
            return number >= LIBRARY_RULES && number < RULES && rules[number].there;
        }

        int headOf(int number) {
            return rules[number].head.relation;
        }

        void remove(int number) {
            rules[number].there = false;
        }

        /** Finds the strata of the rules; false, with the old strata kept, when there are none. */
        boolean stratify() {
            Arrays.fill(trial, 0);
            // No chain of relations is longer than all of them: what still rises then, rises for ever.
            for (int round = 0; round < RELATIONS; round++) {
                if (!raiseHeads()) {
                    System.arraycopy(trial, 0, strata, 0, RELATIONS);
                    return true;
                }
            }
            return false;
        }

        private boolean raiseHeads() {
            boolean raised = false;
            for (int number = 0; number < RULES; number++) {
                if (rules[number].there && raiseHead(rules[number])) {
                    raised = true;
                }
            }
            return raised;
        }

        private boolean raiseHead(Rule rule) {
            int least = 0;
            for (int k = 0; k < rule.length; k++) {
                Literal literal = rule.body[k];
                least = Math.max(least, trial[literal.relation] + (literal.negated ? 1 : 0));
            }
            if (trial[rule.head.relation] >= least) {
                return false;
            }
            trial[rule.head.relation] = least;
            return true;
        }

        /** The set of relations that a set of changed ones can reach through the rules, itself too. */
        int affectedBy(int changed) {
            int affected = changed;
            int before = 0;
            for (int round = 0; round < RELATIONS && affected != before; round++) {
                before = affected;
                for (int number = 0; number < RULES; number++) {
                    Rule rule = rules[number];
                    if (rule.there && (rule.reads & affected) != 0) {
                        affected |= 1 << rule.head.relation;
                    }
                }
            }
            return affected;
        }
    }

    /** Finds the instances of rules whose bodies hold. */
    private static final class Derivation {
        private static final int FREE = -1;
        private static final int EVERYTHING = -1;

        // By term: a value has itself, a variable what it is bound to.
        private final int[] valueOf;
        private long reached;

        Derivation() {
            valueOf = new int[TERMS];
            for (int value = 0; value < VALUES; value++) {
                valueOf[value] = value;
            }
            release();
        }

        /** Brings the affected relations of a stratum from their facts to all that follows. */
        void settle(Relations relations, RuleBook book, int affected, int stratum) {
            int news = EVERYTHING;
            for (int round = 0; round < ROUNDS && news != 0; round++) {
                news = fireAll(relations, book, affected, stratum, news);
            }
        }

        /** The number of instances of a rule whose body holds and whose head is the tuple of a cell. */
        int countInstances(Relations relations, Rule rule, int cell) {
            boolean fits = bind(rule.head.first, cell / VALUES) && bind(rule.head.second, cell % VALUES);
            int count = fits ? matchFrom(relations, rule, 0) : 0;
            release();
            return count;
        }

        /** Fires the rules that could tell something new; answers the set of relations that grew. */
        private int fireAll(Relations relations, RuleBook book, int affected, int stratum, int news) {
            int grown = 0;
            for (int number = 0; number < RULES; number++) {
                Rule rule = book.rules[number];
                int head = rule.head.relation;
                boolean here = rule.there && isIn(head, affected) && book.strata[head] == stratum;
                boolean due = rule.length == 0 || (rule.reads & news) != 0;
                if (here && due) {
                    long old = relations.tuples[head];
                    reached = old;
                    matchFrom(relations, rule, 0);
                    relations.tuples[head] = reached;
                    grown |= reached == old ? 0 : 1 << head;
                }
            }
            return grown;
        }

        private boolean bind(int term, int value) {
            if (valueOf[term] == FREE) {
                valueOf[term] = value;
            }
            return valueOf[term] == value;
        }

        private void release() {
            for (int variable = A; variable <= D; variable++) {
                valueOf[variable] = FREE;
            }
        }

        /** Matches the body from a position on, notes the heads reached, and counts the instances. */
        private int matchFrom(Relations relations, Rule rule, int position) {
            if (position < rule.length && position < BODY) {
                return matchLiteral(relations, rule, position);
            }
            reached |= 1L << cell(valueOf[rule.head.first], valueOf[rule.head.second]);
            return 1;
        }

        private int matchLiteral(Relations relations, Rule rule, int position) {
            Literal literal = rule.body[position];
            long tuples = relations.tuples[literal.relation];
            long holding = literal.negated ? ~tuples : tuples;
            int first = valueOf[literal.first];
            int second = valueOf[literal.second];
            int from = first == FREE ? 0 : cell(first, 0);
            int to = first == FREE ? CELLS : from + VALUES;
            int count = 0;
            for (int cell = from; cell < to; cell++) {
                if ((holding >>> cell & 1) != 0) {
                    if (bind(literal.first, cell / VALUES) && bind(literal.second, cell % VALUES)) {
                        count += matchFrom(relations, rule, position + 1);
                    }
                    valueOf[literal.first] = first;
                    valueOf[literal.second] = second;
                }
            }
            return count;
        }
    }

    /** The objects of a run by their numbers, 0 first; NONE stands for no object. */
    private static final class Run {
        final int[] held;
        final int[] siteOf;
        final int[] fields;
        int made;

        Run() {
            held = new int[VALUES];
            siteOf = new int[OBJECTS];
            fields = new int[OBJECTS * FIELDS];
            Arrays.fill(held, NONE);
        }

        void restart() {
            made = 0;
            Arrays.fill(held, NONE);
        }

        int siteHeldBy(int variable) {
            return held[variable] == NONE ? NONE : siteOf[held[variable]];
        }

        boolean carryOut(int operation, int x, int y) {
            switch (operation) {
                case NEW:
                    return makeObject(x, y);
                case COPY:
                    held[x] = held[y];
                    return true;
                case LOAD0:
                    return load(x, y, 0);
                case STORE0:
                    return store(x, y, 0);
                case LOAD1:
                    return load(x, y, 1);
                case STORE1:
                    return store(x, y, 1);
                default:
                    return false;
            }
        }

        private boolean makeObject(int x, int y) {
            if (made >= OBJECTS) {
                return false;
            }
            siteOf[made] = y;
            for (int field = 0; field < FIELDS; field++) {
                fields[made * FIELDS + field] = NONE;
            }
            held[x] = made;
            made++;
            return true;
        }

        private boolean load(int x, int y, int field) {
            if (held[y] == NONE) {
                return false;
            }
            held[x] = fields[held[y] * FIELDS + field];
            return true;
        }

        private boolean store(int x, int y, int field) {
            if (held[x] == NONE) {
                return false;
            }
            fields[held[x] * FIELDS + field] = held[y];
            return true;
        }
    }
}
