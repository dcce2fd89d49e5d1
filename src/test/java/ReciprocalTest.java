/** Promise 12: reciprocal. */
final class ReciprocalTest {
    private static final TableEdges EDGES = new TableEdges("reciprocal", 2, (d, t) -> d.reciprocal(t[0], t[1]),
        (a, b) -> Definitions.reciprocal(a));

    private static void testEveryLength() {
        for (int n = 1; n <= 16; n++) {
            for (int lead : new int[] {1, 2, 17, Checks.P - 1, 123456789}) {
                Table a = Table.spread(n + lead, 1, n).with(0, lead);
                EDGES.taken(Tables.furnished().with(3, a), 1, 3);
                EDGES.taken(Tables.furnished().with(3, a), 3, 3);
            }
            EDGES.taken(Tables.furnished().with(3, Table.filled(Checks.P - 1, 1, n)), 2, 3);
            EDGES.taken(Tables.furnished().with(3, Table.single(1, n, 0, 5)), 2, 3);
        }
    }

    private static void testByHand() {
        Tables before = Tables.row(1, Checks.P - 1, 0, 0, 0);
        before.taken("of 1 - x", d -> d.reciprocal(1, 0), before.with(1, Table.row(1, 1, 1, 1, 1)));
        Tables.row(1, 2, 0, 0).taken("of 1 + 2x", d -> d.reciprocal(0, 0), Tables.row(1, Checks.P - 2, 4, Checks.P - 8));
        Tables.row(2).taken("of 2", d -> d.reciprocal(0, 0), Tables.row(507386881));
    }

    /** "False, changing nothing, if a number is outside 0..3 or a is not such": here, if it has more rows. */
    private static void testRefusals() {
        EDGES.outside(Tables.alike(1, 1));
        EDGES.outside(Tables.alike(1, 16));
        EDGES.moreRows();
        // The target may have had more rows: only those of a count.
        EDGES.refused(Tables.furnished(), 0, 2);
        EDGES.taken(Tables.furnished(), 2, 0);
    }

    /** "with a[0] not 0": refused at 0, however it came there, and taken at 1 and P - 1. */
    private static void testLead() {
        for (int n : new int[] {1, 2, 3, 15, 16}) {
            Tables before = Tables.alike(1, n);
            for (int a = 0; a < 4; a++) {
                for (int c = 0; c < 4; c++) {
                    EDGES.refused(before.with(a, before.get(a).with(0, 0)), c, a);
                    EDGES.taken(before.with(a, before.get(a).with(0, 1)), c, a);
                    EDGES.taken(before.with(a, before.get(a).with(0, Checks.P - 1)), c, a);
                }
            }
        }
        for (int zero : new int[] {0, Checks.P, -Checks.P, 2 * Checks.P, -2 * Checks.P}) {
            Tables after = Tables.row(0, 5);
            Tables.row(1, 5).taken("a[0] put as " + zero, d -> d.put(0, 0, zero) && !d.reciprocal(1, 0), after);
        }
    }

    /** Only the lead may not be 0: all else may. */
    private static void testZerosBehind() {
        Tables before = Tables.furnished().with(0, Table.single(1, 16, 0, Checks.P - 1));
        before.taken("of P - 1", d -> d.reciprocal(2, 0), before.with(2, Table.single(1, 16, 0, Checks.P - 1)));
        Tables last = Tables.fresh().with(0, Table.single(1, 16, 15, 4).with(0, 1));
        last.taken("of 1 + 4x^15", d -> d.reciprocal(1, 0), last.with(1, Table.single(1, 16, 15, Checks.P - 4).with(0, 1)));
    }

    /** "c becomes the one row of n", whatever it was; c may be a. */
    private static void testTargets() {
        for (int n : new int[] {1, 2, 15, 16}) {
            EDGES.inside(Tables.alike(1, n));
            EDGES.oldShapes(Tables.alike(1, n));
        }
    }

    public static void main(String[] args) {
        testEveryLength();
        testByHand();
        testRefusals();
        testLead();
        testZerosBehind();
        testTargets();
        Checks.finish();
    }
}
