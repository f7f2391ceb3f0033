import java.util.ArrayList;
import java.util.List;
import java.util.function.ToIntFunction;

/**
 * "A call that is refused changes nothing, if nothing else is said." Each refused call is made on an
 * object whose twin does not get it; then all that calls can tell of both must be the same.
 */
public final class RefusedCallsTest {
    private static final int A = Make.A;
    private static final int B = Make.B;
    private static final int C = Make.C;
    private static final Due DUE = new Due("RefusedCallsTest");

    public static void main(String[] args) {
        for (boolean full : new boolean[] {false, true}) {
            relations(full);
            facts(full);
            literals(full);
            rules(full);
            forgets(full);
            edits(full);
            steps(full);
            queries(full);
        }
        DUE.end();
    }

    private static void relations(boolean full) {
        DUE.sentence("A call that is refused changes nothing [relation]");
        for (int arity : new int[] {-1, 0, 3, Integer.MIN_VALUE, Integer.MAX_VALUE}) {
            refused(full, "relation(" + arity + ")", x -> x.relation(arity), -1);
        }
        if (full) {
            refused(true, "relation(1)", x -> x.relation(1), -1);
            refused(true, "relation(2)", x -> x.relation(2), -1);
        }
    }

    private static void facts(boolean full) {
        DUE.sentence("A call that is refused changes nothing [fact]");
        int[][] wrong = {{0, 0, 1, 0}, {6, 0, 1, 0}, {8, 5, 5, 1}, {14, 0, 0, 1}, {-1, 0, 0, 1},
            {9, 6, 0, 1}, {9, -1, 0, 1}, {10, 6, 0, 1}, {10, 0, 6, 1}, {10, -1, 6, 1}, {10, 1, -1, 0},
            {10, 2, 0, 1}, {9, 3, 4, 1}, {10, 3, 3, 0}, {10, 0, 1, 0}};
        for (int[] w : wrong) {
            refused(full, "fact(" + w[0] + ", " + w[1] + ", " + w[2] + ", " + w[3] + ")",
                x -> x.fact(w[0], w[1], w[2], w[3] == 1) ? 1 : 0, 0);
        }
    }

    private static void literals(boolean full) {
        DUE.sentence("A call that is refused changes nothing [literal]");
        int[][] wrong = {{14, A, B}, {-1, A, B}, {10, 6, B}, {10, A, 9}, {10, 14, A}, {6, A, -1}, {9, 7, 0}};
        for (int[] w : wrong) {
            for (boolean negated : new boolean[] {false, true}) {
                refused(full, "literal(" + w[0] + ", " + w[1] + ", " + w[2] + ", " + negated + ")",
                    x -> x.literal(w[0], w[1], w[2], negated), -1);
            }
        }
        if (full) {
            refused(true, "a fifth literal", x -> x.literal(10, A, B, false), -1);
            refused(true, "a fifth literal, negated", x -> x.literal(10, A, B, true), -1);
        }
    }

    /** Here something else is said: no literals are given afterwards. So the twin gives none. */
    private static void rules(boolean full) {
        DUE.sentence("A call that is refused changes nothing [rule, but for the literals]");
        List<Integer> due = picture(busy(full, false));
        ProgramFacts x = busy(full, false);
        DUE.is("rule() of none", x.rule(), -1);
        same("rule() of none", picture(x), due);
        x = busy(full, false);
        DUE.is("unsafe", Make.rule(x, 10, A, B, 10, A, C, 0, 6, B, B, 1), full ? -1 : -2);
        same("unsafe", picture(x), due);
        x = busy(full, false);
        DUE.is("unstratified", Make.rule(x, 10, A, A, 9, A, 0, 1, 10, A, B, 0), full ? -1 : -3);
        same("unstratified", picture(x), due);
        if (full) {
            x = busy(true, true);
            DUE.is("a ninth", x.rule(), -1);
            same("a ninth", picture(x), due);
        }
    }

    private static void forgets(boolean full) {
        DUE.sentence("A call that is refused changes nothing [forget]");
        for (int rule : new int[] {-1, 0, 1, 2, 3, 4, 5, 14, Integer.MIN_VALUE, Integer.MAX_VALUE}) {
            refused(full, "forget(" + rule + ")", x -> x.forget(rule) ? 1 : 0, 0);
        }
        if (!full) {
            refused(false, "forget(9)", x -> x.forget(9) ? 1 : 0, 0);
            refused(false, "forget(13)", x -> x.forget(13) ? 1 : 0, 0);
        }
    }

    private static void edits(boolean full) {
        DUE.sentence("A call that is refused changes nothing [edit]");
        int[][] wrong = {{-1, 0, 0, 0}, {12, 0, 0, 0}, {12, -1, 0, 0}, {0, -2, 0, 0}, {0, 6, 0, 0},
            {0, 0, 6, 0}, {0, 0, 0, 6}, {0, 1, -1, 0}, {0, 1, 0, -1}, {11, 5, 6, 6}, {10, 0, 0, 10}};
        for (int[] w : wrong) {
            refused(full, "edit(" + w[0] + ", " + w[1] + ", " + w[2] + ", " + w[3] + ")",
                x -> x.edit(w[0], w[1], w[2], w[3]), -1);
        }
    }

    private static void steps(boolean full) {
        DUE.sentence("A call that is refused changes nothing [step]");
        // Line 9 has no statement, and variable 5, whose field 7 and 8 mean, holds none.
        for (int line : new int[] {-1, 12, 9, 7, 8, Integer.MIN_VALUE, Integer.MAX_VALUE}) {
            refused(full, "step(" + line + ")", x -> x.step(line) ? 1 : 0, 0);
        }
        if (full) {
            refused(true, "NEW with 20 objects: step(0)", x -> x.step(0) ? 1 : 0, 0);
            refused(true, "NEW with 20 objects: step(1)", x -> x.step(1) ? 1 : 0, 0);
        }
    }

    private static void queries(boolean full) {
        DUE.sentence("A call that is refused changes nothing [queries]");
        refused(full, "holds(14, 0, 0)", x -> x.holds(14, 0, 0) ? 1 : 0, 0);
        refused(full, "holds(10, 6, 0)", x -> x.holds(10, 6, 0) ? 1 : 0, 0);
        refused(full, "size(14)", x -> x.size(14), -1);
        refused(full, "tuple(14, 0)", x -> x.tuple(14, 0), -1);
        refused(full, "tuple(10, 36)", x -> x.tuple(10, 36), -1);
        refused(full, "ways(14, 0, 0)", x -> x.ways(14, 0, 0), -1);
        refused(full, "ways(10, 0, 6)", x -> x.ways(10, 0, 6), -1);
        refused(full, "ways(11, 5, 4), of none", x -> x.ways(11, 5, 4), 0);
        refused(full, "stratum(14)", x -> x.stratum(14), -1);
        refused(full, "line(6, 0, 1)", x -> x.line(6, 0, 1), -1);
        refused(full, "site(6)", x -> x.site(6), -1);
    }

    private static void refused(boolean full, String call, ToIntFunction<ProgramFacts> on, int due) {
        ProgramFacts x = busy(full, true);
        DUE.is((full ? "full: " : "") + call, on.applyAsInt(x), due);
        same(call, picture(x), picture(busy(full, true)));
    }

    private static void same(String call, List<Integer> got, List<Integer> due) {
        DUE.is("after " + call + ", how much it tells", got.size(), due.size());
        for (int k = 0; k < Math.min(got.size(), due.size()); k++) {
            DUE.is("after " + call + ", answer " + k + " of its picture", got.get(k), due.get(k));
        }
    }

    /** An object with something of each kind; a full one has no room left for anything. */
    private static ProgramFacts busy(boolean full, boolean literals) {
        ProgramFacts x = Make.withRelations(new int[] {1, 2, 2, 1, 2}, full ? 5 : 3);
        int[][] lines = {{0, 0, 1}, {0, 1, 2}, {3, 0, 1}, {2, 2, 0}, {5, 1, 0}, {4, 3, 1}, {1, 4, 3},
            {3, 5, 0}, {2, 0, 5}};
        for (int line = 0; line < lines.length; line++) {
            x.edit(line, lines[line][0], lines[line][1], lines[line][2]);
        }
        Make.rule(x, 10, A, B, 6, A, B, 0);
        Make.rule(x, 11, A, C, 10, A, B, 0, 10, B, C, 0);
        Make.rule(x, 9, A, 0, 10, A, B, 0, 11, A, A, 1);
        for (int k = 3; k < 8 && full; k++) {
            Make.rule(x, 12 + k % 2, k % 6, k % 5, 9, k % 6, 0, 0);
        }
        x.fact(9, 3, 0, true);
        x.fact(10, 2, 0, true);
        for (int line = 0; line < 7; line++) {
            x.step(line);
        }
        for (int k = 2; k < 20 && full; k++) {
            x.step(0);
        }
        if (literals) {
            Make.give(x, 10, A, B, 11, B, A, 0);
        }
        if (literals && full) {
            x.literal(6, A, A, false);
            x.literal(0, 5, 5, true);
        }
        return x;
    }

    /** All that calls can tell: first the queries, then the calls that show what queries do not. */
    private static List<Integer> picture(ProgramFacts x) {
        List<Integer> told = new ArrayList<>();
        told.add(x.changes());
        told.add(x.objects());
        addSites(x, told);
        for (int relation = 0; relation < 14; relation++) {
            addRelation(x, relation, told);
        }
        for (int line = 0; line < 12; line++) {
            told.add(x.step(line) ? 1 : 0);
            told.add(x.site(2) + 10 * x.site(3));
        }
        addSites(x, told);
        told.add(x.literal(10, 4, 4, false));
        told.add(x.rule());
        told.add(x.changes());
        for (int rule = 6; rule < 14; rule++) {
            told.add(x.forget(rule) ? x.changes() : -1);
        }
        told.add(x.relation(1));
        told.add(x.edit(11, Make.NONE, 0, 0));
        return told;
    }

    private static void addSites(ProgramFacts x, List<Integer> told) {
        for (int variable = 0; variable < 6; variable++) {
            told.add(x.site(variable));
        }
    }

    private static void addRelation(ProgramFacts x, int relation, List<Integer> told) {
        int size = x.size(relation);
        told.add(size);
        told.add(x.stratum(relation));
        for (int k = 0; k < size; k++) {
            int tuple = x.tuple(relation, k);
            boolean one = relation == 9 || relation == 12;
            int a = one ? tuple : tuple / 10;
            int b = one ? 0 : tuple % 10;
            told.add(tuple);
            told.add(x.ways(relation, a, b));
            told.add(x.line(relation, a, b));
        }
    }
}
