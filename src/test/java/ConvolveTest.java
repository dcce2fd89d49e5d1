/** Promise 7: convolve. */
final class ConvolveTest {
    private static void testTables(Table a, Table b, int kind) {
        Tables before = Tables.furnished().with(kind, a).with(kind + 1, b);
        int c = (kind + 2) % 4;
        String call = a + ", " + b + ", convolve(" + c + ", " + kind + ", " + (kind + 1) + ", " + kind + ")";
        before.taken(call, d -> d.convolve(c, kind, kind + 1, kind), before.with(c, Definitions.convolved(a, b, kind)));
    }

    private static void testEveryShape() {
        for (int[] shape : Checks.everyShape()) {
            int seed = shape[0] * 50 + shape[1];
            Table greatest = Table.filled(Checks.P - 1, shape[0], shape[1]);
            for (int kind = 0; kind <= 2; kind++) {
                testTables(Table.spread(seed, shape[0], shape[1]), Table.spread(-seed, shape[0], shape[1]), kind);
                testTables(greatest, greatest, kind);
            }
        }
    }

    private static void testByHand() {
        Tables before = Tables.row(1, 10, 100).with(1, Table.row(2, 3, 5));
        before.taken("kind 0", d -> d.convolve(2, 0, 1, 0), before.with(2, Table.row(352, 523, 235)));
        before.taken("kind 1", d -> d.convolve(2, 0, 1, 1), before.with(2, Table.row(532, 253, 325)));
        before.taken("kind 2", d -> d.convolve(2, 0, 1, 2),
            before.with(2, Table.row(Checks.P - 348, Checks.P - 477, 235)));
    }

    /** Kind 2 takes the sign from the columns alone, however the rows wrap around. */
    private static void testKindTwoDownOneColumn() {
        Tables before = Tables.fresh().with(0, new Table(3, 1, 1, 10, 100)).with(1, new Table(3, 1, 2, 3, 5));
        before.taken("kind 2 in a column", d -> d.convolve(2, 0, 1, 2), before.with(2, new Table(3, 1, 352, 523, 235)));
    }

    public static void main(String[] args) {
        testEveryShape();
        testByHand();
        testKindTwoDownOneColumn();
        Checks.finish();
    }
}
