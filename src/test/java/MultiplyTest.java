/** Promise 10: multiply. */
final class MultiplyTest {
    private static final TableEdges EDGES = new TableEdges("multiply", 3, (d, t) -> d.multiply(t[0], t[1], t[2]),
        Definitions::multiplied);

    private static void testEveryShape() {
        for (int[] shape : Checks.everyShape()) {
            Table a = Table.spread(7 * shape[0], shape[0], shape[1]);
            Table b = Table.spread(-7 * shape[1], shape[0], shape[1]);
            EDGES.taken(Tables.furnished().with(1, a).with(3, b), 0, 1, 3);
        }
    }

    private static void testByHand() {
        Tables before = Tables.furnished();
        Table products = Table.row(0, 56, 33, Checks.P - 8);
        before.taken("multiply(2, 0, 1)", d -> d.multiply(2, 0, 1), before.with(2, products));
        before.taken("multiply(0, 0, 1)", d -> d.multiply(0, 0, 1), before.with(0, products));
        before.taken("multiply(1, 0, 1)", d -> d.multiply(1, 0, 1), before.with(1, products));
        before.taken("multiply(2, 2, 2)", d -> d.multiply(2, 2, 2), before.with(2, new Table(2, 2, 441, 484, 529, 576)));
    }

    /** "otherwise as add": "False, changing nothing, if a number is outside 0..3 or the shapes differ." */
    private static void testRefusals() {
        EDGES.outside(Tables.alike(1, 1));
        EDGES.outside(Tables.alike(1, 4));
        EDGES.outside(Tables.alike(16, 3));
        EDGES.shapesThatDiffer();
    }

    /** "otherwise as add": "c gets it", the shape; "what is read is what was there before the call". */
    private static void testTargets() {
        EDGES.inside(Tables.alike(1, 1));
        EDGES.inside(Tables.alike(2, 3));
        EDGES.shapes();
        EDGES.oldShapes(Tables.alike(5, 2));
        EDGES.oldShapes(Tables.alike(3, 16));
    }

    /** Products of the least and greatest elements, and ones just below and above P. */
    private static void testProducts() {
        Tables before = Tables.row(0, 0, 1, Checks.P - 1, Checks.P - 1, 507386880, 507386881)
            .with(1, Table.row(0, Checks.P - 1, Checks.P - 1, Checks.P - 1, 2, 2, 2));
        before.taken("products around P", d -> d.multiply(2, 0, 1),
            before.with(2, Table.row(0, 0, Checks.P - 1, 1, Checks.P - 2, Checks.P - 1, 1)));
        Tables full = Tables.fresh().with(0, Table.filled(Checks.P - 1, 3, 16));
        full.taken("greatest elements", d -> d.multiply(3, 0, 0), full.with(3, Table.filled(1, 3, 16)));
    }

    public static void main(String[] args) {
        testEveryShape();
        testByHand();
        testRefusals();
        testTargets();
        testProducts();
        Checks.finish();
    }
}
