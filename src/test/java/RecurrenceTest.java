/** Promise 15: recurrence. */
final class RecurrenceTest {
    private static final RowEdges EDGES = new RowEdges("recurrence", (d, v) -> d.recurrence(v), Definitions::leastLength);

    private static void testByHand() {
        EDGES.due(1, 1, 3, 9, 27);
        EDGES.due(2, 1, 2, 3, 4, 5);
        EDGES.due(3, 0, 1, 4, 9, 16, 25, 36);
        EDGES.due(2, 1, 1, 2, 3, 5, 8);
        EDGES.due(1, 1, Checks.P - 1, 1, Checks.P - 1);
    }

    /** "the least L (0..n)": 0 for zeros alone, n where only the last element is not 0, and every L between. */
    private static void testEveryLength() {
        for (int n = 1; n <= 16; n++) {
            EDGES.due(0, new int[n]);
            EDGES.answers(Tables.fresh().with(0, Table.single(1, n, n - 1, 1)), 0, n);
            EDGES.answers(Tables.fresh().with(0, Table.single(1, n, n - 1, Checks.P - 1)), 0, n);
            for (int length = 0; length <= n; length++) {
                EDGES.answers(Tables.furnished().with(0, Sequences.lateStart(length, n)), 0, length);
            }
        }
    }

    /** "for every i from L to n-1": the last element alone can break what held until then. */
    private static void testLastElement() {
        EDGES.due(1, 5, 0, 0);
        EDGES.due(3, 5, 0, 0, 1);
        EDGES.due(1, 1, 2, 4, 8);
        EDGES.due(4, 1, 2, 4, 8, 17);
        EDGES.due(6, 1, 2, 4, 8, 16, 32, 65);
        EDGES.due(1, 1);
        EDGES.due(0, 0);
        EDGES.due(1, 1, 1);
        EDGES.due(2, 0, 1);
        EDGES.due(1, 1, 0);
    }

    /** An earlier search may leave nothing behind that a later one reads. */
    private static void testCallsStandApart() {
        Table spread = Table.spread(3, 1, 16);
        ExactTransformDesk desk = Tables.fresh().with(0, spread).with(1, Table.row(1, 2, 4, 8, 16)).desk();
        Checks.due("16 spread elements", desk.recurrence(0), Definitions.leastLength(spread));
        Checks.due("powers of 2 after that", desk.recurrence(1), 1);
        Checks.due("a single 0 after that", desk.recurrence(2), 0);
        Checks.due("16 spread elements again", desk.recurrence(0), Definitions.leastLength(spread));
    }

    public static void main(String[] args) {
        EDGES.sequences();
        testByHand();
        testEveryLength();
        testLastElement();
        testCallsStandApart();
        // "-1 if v is outside 0..3 or has more than one row."
        EDGES.tables();
        EDGES.moreRows();
        EDGES.smallerNow();
        Checks.finish();
    }
}
