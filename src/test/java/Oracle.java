import java.util.ArrayList;
import java.util.List;
import java.util.Set;
import java.util.TreeMap;
import java.util.TreeSet;

/**
 * The document's words put into code as they stand, with sets of texts, all instances tried, and
 * nothing kept from call to call but what the words make state. It shares no idea with the class.
 */
final class Oracle {
    static final class Lit {
        final int relation;
        final int[] terms;
        final boolean negated;

        Lit(int relation, int[] terms, boolean negated) {
            this.relation = relation;
            this.terms = terms;
            this.negated = negated;
        }

        String under(int[] values) {
            StringBuilder text = new StringBuilder();
            text.append(relation).append(':');
            for (int term : terms) {
                text.append(term >= 10 ? values[term - 10] : term);
            }
            return text.toString();
        }
    }

    static final class Thing {
        final int site;
        final Thing[] fields = new Thing[2];

        Thing(int site) {
            this.site = site;
        }
    }

    final List<Integer> arities = new ArrayList<>();
    final Set<String> userFacts = new TreeSet<>();
    final TreeMap<Integer, List<Lit>> rules = new TreeMap<>();
    final List<Lit> given = new ArrayList<>();
    final int[][] lines = new int[12][];
    Thing[] variables = new Thing[6];
    int things = 0;
    int latest = 0;
    Set<String> model = new TreeSet<>();

    Oracle() {
        for (int k = 0; k < 9; k++) {
            arities.add(2);
        }
        library(0, 6, 10, 11, 0, 10, 11);
        library(1, 6, 10, 12, 1, 10, 11, 6, 11, 12);
        library(2, 7, 12, 13, 3, 10, 11, 6, 10, 12, 6, 11, 13);
        library(3, 6, 10, 13, 2, 10, 11, 6, 11, 12, 7, 12, 13);
        library(4, 8, 12, 13, 5, 10, 11, 6, 10, 12, 6, 11, 13);
        library(5, 6, 10, 13, 4, 10, 11, 6, 11, 12, 8, 12, 13);
    }

    private void library(int number, int... words) {
        List<Lit> rule = new ArrayList<>();
        for (int k = 0; k < words.length; k += 3) {
            rule.add(new Lit(words[k], new int[] {words[k + 1], words[k + 2]}, false));
        }
        rules.put(number, rule);
    }

    int relation(int arity) {
        if (arities.size() == 14 || (arity != 1 && arity != 2)) {
            return -1;
        }
        arities.add(arity);
        return arities.size() - 1;
    }

    boolean fact(int relation, int a, int b, boolean there) {
        String tuple = tupleText(relation, a, b);
        if (tuple == null || relation < 9 || userFacts.contains(tuple) == there) {
            return false;
        }
        if (there) {
            userFacts.add(tuple);
        } else {
            userFacts.remove(tuple);
        }
        renew();
        return true;
    }

    int literal(int relation, int a, int b, boolean negated) {
        if (given.size() == 4 || !known(relation)) {
            return -1;
        }
        int[] terms = arities.get(relation) == 2 ? new int[] {a, b} : new int[] {a};
        for (int term : terms) {
            if (!(term >= 0 && term <= 5) && !(term >= 10 && term <= 13)) {
                return -1;
            }
        }
        if (given.isEmpty() && (negated || relation < 9)) {
            return -1;
        }
        given.add(new Lit(relation, terms, negated));
        return given.size();
    }

    int rule() {
        List<Lit> literals = new ArrayList<>(given);
        given.clear();
        if (literals.isEmpty() || rules.size() == 14) {
            return -1;
        }
        if (!isSafe(literals)) {
            return -2;
        }
        int number = 6;
        while (rules.containsKey(number)) {
            number++;
        }
        rules.put(number, literals);
        if (strata() == null) {
            rules.remove(number);
            return -3;
        }
        renew();
        return number;
    }

    boolean forget(int rule) {
        if (rule < 6 || !rules.containsKey(rule)) {
            return false;
        }
        rules.remove(rule);
        renew();
        return true;
    }

    int edit(int line, int operation, int x, int y) {
        if (line < 0 || line > 11 || operation < -1 || operation > 5) {
            return -1;
        }
        if (operation != -1 && (x < 0 || x > 5 || y < 0 || y > 5)) {
            return -1;
        }
        lines[line] = operation == -1 ? null : new int[] {operation, x, y};
        variables = new Thing[6];
        things = 0;
        renew();
        int count = 0;
        for (int[] statement : lines) {
            count += statement == null ? 0 : 1;
        }
        return count;
    }

    boolean holds(int relation, int a, int b) {
        String tuple = tupleText(relation, a, b);
        return tuple != null && model.contains(tuple);
    }

    int size(int relation) {
        return known(relation) ? tuplesOf(relation).size() : -1;
    }

    int tuple(int relation, int k) {
        if (!known(relation)) {
            return -1;
        }
        List<Integer> tuples = tuplesOf(relation);
        return k < 0 || k >= tuples.size() ? -1 : tuples.get(k);
    }

    private List<Integer> tuplesOf(int relation) {
        List<Integer> tuples = new ArrayList<>();
        for (int a = 0; a < 6; a++) {
            for (int b = 0; b < (arities.get(relation) == 2 ? 6 : 1); b++) {
                if (holds(relation, a, b)) {
                    tuples.add(arities.get(relation) == 2 ? 10 * a + b : a);
                }
            }
        }
        return tuples;
    }

    int ways(int relation, int a, int b) {
        String tuple = tupleText(relation, a, b);
        if (tuple == null) {
            return -1;
        }
        int count = facts().contains(tuple) ? 1 : 0;
        for (List<Lit> rule : rules.values()) {
            if (rule.get(0).relation == relation) {
                for (String head : headsThatHold(rule, model)) {
                    count += head.equals(tuple) ? 1 : 0;
                }
            }
        }
        return count;
    }

    int stratum(int relation) {
        return known(relation) ? strata()[relation] : -1;
    }

    int line(int relation, int a, int b) {
        for (int line = 0; line < 12; line++) {
            int[] s = lines[line];
            if (s != null && s[0] == relation && s[1] == a && s[2] == b) {
                return line;
            }
        }
        return -1;
    }

    int changes() {
        return latest;
    }

    boolean step(int line) {
        if (line < 0 || line > 11 || lines[line] == null) {
            return false;
        }
        int operation = lines[line][0];
        int x = lines[line][1];
        int y = lines[line][2];
        if (operation == 0) {
            if (things == 20) {
                return false;
            }
            things++;
            variables[x] = new Thing(y);
        } else if (operation == 1) {
            variables[x] = variables[y];
        } else if (operation == 2 || operation == 4) {
            if (variables[y] == null) {
                return false;
            }
            variables[x] = variables[y].fields[operation == 2 ? 0 : 1];
        } else {
            if (variables[x] == null) {
                return false;
            }
            variables[x].fields[operation == 3 ? 0 : 1] = variables[y];
        }
        return true;
    }

    int site(int variable) {
        return variable < 0 || variable > 5 || variables[variable] == null ? -1 : variables[variable].site;
    }

    int objects() {
        return things;
    }

    private boolean known(int relation) {
        return relation >= 0 && relation < arities.size();
    }

    private String tupleText(int relation, int a, int b) {
        if (!known(relation) || a < 0 || a > 5 || (arities.get(relation) == 2 && (b < 0 || b > 5))) {
            return null;
        }
        return arities.get(relation) == 2 ? relation + ":" + a + b : relation + ":" + a;
    }

    private Set<String> facts() {
        Set<String> facts = new TreeSet<>(userFacts);
        for (int[] statement : lines) {
            if (statement != null) {
                facts.add(statement[0] + ":" + statement[1] + statement[2]);
            }
        }
        return facts;
    }

    private static Set<Integer> variablesOf(Lit literal) {
        Set<Integer> variables = new TreeSet<>();
        for (int term : literal.terms) {
            if (term >= 10) {
                variables.add(term);
            }
        }
        return variables;
    }

    private static boolean isSafe(List<Lit> rule) {
        Set<Integer> positive = new TreeSet<>();
        for (Lit literal : rule.subList(1, rule.size())) {
            if (!literal.negated) {
                positive.addAll(variablesOf(literal));
            }
        }
        for (int k = 0; k < rule.size(); k++) {
            boolean looked = k == 0 || rule.get(k).negated;
            if (looked && !positive.containsAll(variablesOf(rule.get(k)))) {
                return false;
            }
        }
        return true;
    }

    /** The least numbers, raised one by one; null when one would have to pass all relations. */
    private int[] strata() {
        int[] numbers = new int[14];
        boolean moved = true;
        while (moved) {
            moved = false;
            for (List<Lit> rule : rules.values()) {
                int head = rule.get(0).relation;
                for (Lit literal : rule.subList(1, rule.size())) {
                    boolean low = literal.negated ? numbers[head] <= numbers[literal.relation]
                        : numbers[head] < numbers[literal.relation];
                    if (low) {
                        numbers[head]++;
                        moved = true;
                        if (numbers[head] > 20) {
                            return null;
                        }
                    }
                }
            }
        }
        return numbers;
    }

    /** The heads of all instances whose bodies hold, one for each instance. */
    private static List<String> headsThatHold(List<Lit> rule, Set<String> model) {
        boolean[] has = new boolean[4];
        for (Lit literal : rule) {
            for (int variable : variablesOf(literal)) {
                has[variable - 10] = true;
            }
        }
        List<String> heads = new ArrayList<>();
        int[] values = new int[4];
        for (values[0] = 0; values[0] < (has[0] ? 6 : 1); values[0]++) {
            for (values[1] = 0; values[1] < (has[1] ? 6 : 1); values[1]++) {
                for (values[2] = 0; values[2] < (has[2] ? 6 : 1); values[2]++) {
                    for (values[3] = 0; values[3] < (has[3] ? 6 : 1); values[3]++) {
                        if (bodyHolds(rule, values, model)) {
                            heads.add(rule.get(0).under(values));
                        }
                    }
                }
            }
        }
        return heads;
    }

    private static boolean bodyHolds(List<Lit> rule, int[] values, Set<String> model) {
        for (int k = 1; k < rule.size(); k++) {
            if (model.contains(rule.get(k).under(values)) == rule.get(k).negated) {
                return false;
            }
        }
        return true;
    }

    private void renew() {
        Set<String> before = model;
        Set<String> after = new TreeSet<>(facts());
        int[] numbers = strata();
        for (int stratum = 0; stratum < 14; stratum++) {
            boolean grew = true;
            while (grew) {
                Set<String> heads = new TreeSet<>();
                for (List<Lit> rule : rules.values()) {
                    if (numbers[rule.get(0).relation] == stratum) {
                        heads.addAll(headsThatHold(rule, after));
                    }
                }
                grew = after.addAll(heads);
            }
        }
        model = after;
        latest = 0;
        for (String tuple : before) {
            latest += after.contains(tuple) ? 0 : 1;
        }
        for (String tuple : after) {
            latest += before.contains(tuple) ? 0 : 1;
        }
    }
}
