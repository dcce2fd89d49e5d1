/** Promise 14: evaluate. */
final class EvaluateTest {
    private static RowEdges edges(int x) {
        return new RowEdges("value at " + x, (d, v) -> d.evaluate(v, x), t -> Definitions.valueAt(t, x));
    }

    private static void testEveryLength() {
        for (int n = 1; n <= 16; n++) {
            for (int x : Checks.ANY_INTS) {
                edges(x).of(Table.spread(n, 1, n));
                edges(x).of(Table.filled(Checks.P - 1, 1, n));
                edges(x).of(Table.single(1, n, n - 1, 3));
            }
        }
    }

    private static void testByHand() {
        ExactTransformDesk desk = Tables.row(7, 0, 3).desk();
        Checks.due("7 + 3x^2 at 10", desk.evaluate(0, 10), 307);
        Checks.due("7 + 3x^2 at -10", desk.evaluate(0, -10), 307);
        Checks.due("a table of 0 at 5", desk.evaluate(1, 5), 0);
    }

    /** "at x (modulo P)": x any int, the same where it goes round P; at 0 the first coefficient alone counts. */
    private static void testPoints() {
        ExactTransformDesk desk = Tables.row(7, 1).desk();
        Checks.due("7 + x at 0", desk.evaluate(0, 0), 7);
        Checks.due("7 + x at P", desk.evaluate(0, Checks.P), 7);
        Checks.due("7 + x at -P", desk.evaluate(0, -Checks.P), 7);
        Checks.due("7 + x at 2P", desk.evaluate(0, 2 * Checks.P), 7);
        Checks.due("7 + x at P - 8", desk.evaluate(0, Checks.P - 8), Checks.P - 1);
        Checks.due("7 + x at P - 7", desk.evaluate(0, Checks.P - 7), 0);
        Checks.due("7 + x at P - 6", desk.evaluate(0, Checks.P - 6), 1);
        Checks.due("7 + x at -7", desk.evaluate(0, -7), 0);
        Checks.due("7 + x at -8", desk.evaluate(0, -8), Checks.P - 1);
        Checks.due("7 + x at 2147483647", desk.evaluate(0, Checks.GREATEST), 117936132);
        Checks.due("7 + x at -2147483648", desk.evaluate(0, Checks.LEAST), 896837642);
    }

    /** "-1 if v is outside 0..3 or has more than one row." */
    private static void testNone() {
        for (int x : new int[] {0, 1, Checks.LEAST, Checks.GREATEST}) {
            edges(x).tables();
            edges(x).moreRows();
            edges(x).smallerNow();
        }
    }

    public static void main(String[] args) {
        testEveryLength();
        testByHand();
        testPoints();
        testNone();
        Checks.finish();
    }
}
