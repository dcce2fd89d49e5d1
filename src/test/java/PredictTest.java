/** Promise 16: predict. */
final class PredictTest {
    private static final RowEdges EDGES = new RowEdges("predict", (d, v) -> d.predict(v), Definitions::predicted);

    private static void testByHand() {
        EDGES.due(81, 1, 3, 9, 27);
        EDGES.due(13, 1, 1, 2, 3, 5, 8);
        EDGES.due(0, 5, 0, 0);
    }

    /** "If 2 * recurrence(v) is at most n .. Else -1": just enough, and one element too few. */
    private static void testJustEnough() {
        EDGES.due(9, 1, 3);
        EDGES.due(-1, 1);
        EDGES.due(5, 1, 2, 3, 4);
        EDGES.due(-1, 1, 2, 3);
        EDGES.due(36, 0, 1, 4, 9, 16, 25);
        EDGES.due(-1, 0, 1, 4, 9, 16);
        EDGES.due(0, 1, 0);
        EDGES.due(-1, 0, 1);
    }

    /** The same for every L: the next element of a sequence that goes on, if n is 2 * L or more. */
    private static void testEveryLength() {
        for (int n = 1; n <= 16; n++) {
            for (int length = 0; length <= n; length++) {
                int next = Sequences.lateStart(length, n + 1).at(0, n);
                Tables tables = Tables.furnished().with(0, Sequences.lateStart(length, n));
                EDGES.answers(tables, 0, 2 * length <= n ? next : -1);
            }
        }
    }

    /** With L = 0 there is nothing to sum: 0, for every n. */
    private static void testNothingToSum() {
        for (int n = 1; n <= 16; n++) {
            EDGES.due(0, new int[n]);
        }
    }

    /** Sums that come out just below, at and above P. */
    private static void testSums() {
        EDGES.due(Checks.P - 1, 3, 2, 1, 0);
        EDGES.due(Checks.P - 2, 2, 1, 0, Checks.P - 1);
        EDGES.due(0, Checks.P - 4, Checks.P - 3, Checks.P - 2, Checks.P - 1);
        EDGES.due(1, Checks.P - 3, Checks.P - 2, Checks.P - 1, 0);
        EDGES.due(1, 1, Checks.P - 1, 1, Checks.P - 1);
        EDGES.due(Checks.P - 1, Checks.P - 1, Checks.P - 1);
    }

    private static void testCallsStandApart() {
        ExactTransformDesk desk = Tables.row(1, 1, 2, 3, 5, 8).with(3, Table.row(1, 2, 4, 8)).desk();
        Checks.due("recurrence(3)", desk.recurrence(3), 1);
        Checks.due("predict(0) after recurrence(3)", desk.predict(0), 13);
        Checks.due("predict(3) after predict(0)", desk.predict(3), 16);
        desk.put(3, 3, 9);
        Checks.due("predict(3) after a put", desk.predict(3), Definitions.predicted(Table.row(1, 2, 4, 9)));
    }

    public static void main(String[] args) {
        EDGES.sequences();
        testByHand();
        testJustEnough();
        testEveryLength();
        testNothingToSum();
        testSums();
        testCallsStandApart();
        // No number of a table, or more than one row: recurrence(v) is -1 then, and there is nothing to predict.
        EDGES.tables();
        EDGES.moreRows();
        EDGES.smallerNow();
        Checks.finish();
    }
}
