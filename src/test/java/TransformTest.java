/** Promise 6: transform. */
final class TransformTest {
    private static void testEveryShape() {
        for (int[] shape : Checks.everyShape()) {
            Table x = Table.spread(shape[0] * 100 + shape[1], shape[0], shape[1]);
            for (int axis = 0; axis <= 2; axis++) {
                testTable(x, axis, false);
                testTable(x, axis, true);
            }
        }
    }

    private static void testTable(Table x, int axis, boolean back) {
        int v = (x.rows() + x.columns() + axis) % 4;
        Tables before = Tables.furnished().with(v, x);
        String call = x + ", transform(" + v + ", " + axis + ", " + back + ")";
        Tables after = before.with(v, Definitions.transformed(x, axis, back));
        before.taken(call, d -> d.transform(v, axis, back), after);
        after.taken(call + " and back", d -> d.transform(v, axis, !back), before);
    }

    private static void testByHand() {
        Tables before = Tables.furnished();
        before.taken("rows of 2", d -> d.transform(2, 0, false),
            before.with(2, new Table(2, 2, 43, Checks.P - 1, 47, Checks.P - 1)));
        before.taken("columns of 2", d -> d.transform(2, 1, false),
            before.with(2, new Table(2, 2, 44, 46, Checks.P - 2, Checks.P - 2)));
        before.taken("both of 2", d -> d.transform(2, 2, false),
            before.with(2, new Table(2, 2, 90, Checks.P - 2, Checks.P - 4, 0)));
    }

    public static void main(String[] args) {
        testEveryShape();
        testByHand();
        Checks.finish();
    }
}
