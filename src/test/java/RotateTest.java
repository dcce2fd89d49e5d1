/** Promise 11: rotate. */
final class RotateTest {
    private static TableEdges edges(int by) {
        return new TableEdges("rotate by " + by, 1, (d, t) -> d.rotate(t[0], by), (a, b) -> Definitions.rotated(a, by));
    }

    private static void testEveryShape() {
        for (int[] shape : Checks.everyShape()) {
            Table x = Table.steps(7, 40, shape[0], shape[1]);
            for (int by = -2 * shape[1] - 1; by <= 2 * shape[1] + 1; by++) {
                edges(by).taken(Tables.furnished().with(2, x), 2);
            }
        }
    }

    private static void testByHand() {
        Tables before = Tables.furnished().with(3, new Table(2, 3, 1, 2, 3, 4, 5, 6));
        before.taken("by 1", d -> d.rotate(3, 1), before.with(3, new Table(2, 3, 2, 3, 1, 5, 6, 4)));
        before.taken("by -1", d -> d.rotate(3, -1), before.with(3, new Table(2, 3, 3, 1, 2, 6, 4, 5)));
        before.taken("by 3", d -> d.rotate(3, 3), before);
        before.taken("by -3", d -> d.rotate(3, -3), before);
        before.taken("by 0", d -> d.rotate(3, 0), before);
        before.taken("by 4", d -> d.rotate(3, 4), before.with(3, new Table(2, 3, 2, 3, 1, 5, 6, 4)));
        before.taken("by 2147483647", d -> d.rotate(3, Checks.GREATEST), before.with(3, new Table(2, 3, 2, 3, 1, 5, 6, 4)));
        before.taken("by -2147483648", d -> d.rotate(3, Checks.LEAST), before.with(3, new Table(2, 3, 2, 3, 1, 5, 6, 4)));
    }

    /** "element (j + by) mod columns" for any int, where j + by is no int any more and in every number of columns. */
    private static void testEveryInt() {
        for (int columns = 1; columns <= 16; columns++) {
            for (int rows : new int[] {1, 48 / columns > 16 ? 16 : 48 / columns}) {
                Tables before = Tables.furnished().with(2, Table.steps(9, 11, rows, columns));
                for (int by : Checks.ANY_INTS) {
                    edges(by).taken(before, 2);
                }
                for (int off = 0; off <= columns; off++) {
                    edges(Checks.GREATEST - off).taken(before, 2);
                    edges(Checks.LEAST + off).taken(before, 2);
                }
            }
        }
    }

    /** "False if v is outside 0..3." */
    private static void testTables() {
        for (int by : new int[] {0, 1, Checks.LEAST, Checks.GREATEST}) {
            for (Tables before : new Tables[] {Tables.furnished(), Tables.alike(3, 16)}) {
                edges(by).outside(before);
                edges(by).inside(before);
            }
            edges(by).shapes();
        }
    }

    public static void main(String[] args) {
        testEveryShape();
        testByHand();
        testEveryInt();
        testTables();
        Checks.finish();
    }
}
