/** Promise 14: evaluate. */
final class EvaluateTest {
    private static void testEveryLength() {
        for (int n = 1; n <= 16; n++) {
            for (int[] x : new int[][] {Reference.series(n, n), Reference.repeated(Checks.P - 1, n)}) {
                ExactTransformDesk desk = Checks.used();
                Checks.fill(desk, 2, 1, n, x);
                for (int point : Checks.EDGE_INTS) {
                    int want = Reference.valueAt(x, Reference.mod(point));
                    Checks.due(n + " elements, evaluate(2, " + point + ")", desk.evaluate(2, point), want);
                }
                Checks.dueTable("evaluate leaves the table", desk, 2, 1, n, x);
            }
        }
    }

    private static void testByHand() {
        ExactTransformDesk desk = Checks.deskWithRow(7, 0, 3);
        Checks.due("7 + 3x^2 at 0", desk.evaluate(0, 0), 7);
        Checks.due("7 + 3x^2 at 10", desk.evaluate(0, 10), 307);
        Checks.due("7 + 3x^2 at -10", desk.evaluate(0, -10), 307);
        Checks.due("7 + 3x^2 at P", desk.evaluate(0, Checks.P), 7);
        Checks.due("the new table at 5", desk.evaluate(1, 5), 0);
    }

    private static void testNone() {
        ExactTransformDesk desk = Checks.furnished();
        for (int v : Checks.NO_TABLES) {
            Checks.due("evaluate(" + v + ", 1)", desk.evaluate(v, 1), -1);
        }
        Checks.due("evaluate of 2 by 2", desk.evaluate(2, 1), -1);
        desk.shape(1, 16, 1);
        Checks.due("evaluate of one column", desk.evaluate(1, 1), -1);
    }

    public static void main(String[] args) {
        testEveryLength();
        testByHand();
        testNone();
        Checks.finish();
    }
}
