/** Promise 9: add. */
final class AddTest {
    private static void testEveryShape() {
        for (int[] shape : Checks.everyShape()) {
            int factor = 3 - shape[0] * shape[1];
            Table a = Table.spread(shape[0], shape[0], shape[1]);
            Table b = Table.spread(-shape[1], shape[0], shape[1]);
            Tables before = Tables.furnished().with(2, a).with(0, b);
            String call = a + ", " + b + ", add(3, 2, 0, " + factor + ")";
            before.taken(call, d -> d.add(3, 2, 0, factor), before.with(3, Definitions.added(a, b, factor)));
        }
    }

    private static void testByHand() {
        Tables before = Tables.furnished();
        before.taken("add(2, 0, 1, -2)", d -> d.add(2, 0, 1, -2),
            before.with(2, Table.row(5, Checks.P - 9, 5, Checks.P - 17)));
        before.taken("add(0, 0, 1, 3)", d -> d.add(0, 0, 1, 3), before.with(0, Table.row(5, 31, 20, 23)));
        before.taken("add(1, 0, 1, 3)", d -> d.add(1, 0, 1, 3), before.with(1, Table.row(5, 31, 20, 23)));
        before.taken("add(2, 2, 2, 1)", d -> d.add(2, 2, 2, 1), before.with(2, new Table(2, 2, 42, 44, 46, 48)));
    }

    public static void main(String[] args) {
        testEveryShape();
        testByHand();
        Checks.finish();
    }
}
