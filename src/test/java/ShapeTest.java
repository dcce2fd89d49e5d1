/** Promise 2: shape. */
final class ShapeTest {
    private static void testEveryShape() {
        for (int[] shape : Checks.everyShape()) {
            String call = "shape(1, " + shape[0] + ", " + shape[1] + ")";
            Tables before = Tables.furnished();
            Tables after = before.with(1, Table.filled(0, shape[0], shape[1]));
            before.taken(call, d -> d.shape(1, shape[0], shape[1]), after);
        }
    }

    /** "all elements 0": also those that are there again after the table was smaller. */
    private static void testOldElementsAreGone() {
        Tables full = Tables.alike(3, 16);
        for (int v = 0; v < 4; v++) {
            int table = v;
            full.taken("shape(" + v + ", 3, 16)", d -> d.shape(table, 3, 16), full.with(v, Table.filled(0, 3, 16)));
            full.taken("shape(" + v + ", 1, 1), then 16, 3", d -> d.shape(table, 1, 1) && d.shape(table, 16, 3),
                full.with(v, Table.filled(0, 16, 3)));
        }
    }

    public static void main(String[] args) {
        testEveryShape();
        testOldElementsAreGone();
        Checks.finish();
    }
}
