/** Promise 2, its edges: "False, changing nothing, if ..". */
final class ShapeEdgesTest {
    private static final int[] NO_SIDES = {0, 17, -1, -2, -16, 18, 32, 48, 65536, Checks.LEAST, Checks.GREATEST};

    private static void refused(Tables before, int v, int rows, int columns) {
        before.refused("shape(" + v + ", " + rows + ", " + columns + ")", d -> d.shape(v, rows, columns));
    }

    private static void taken(Tables before, int v, int rows, int columns) {
        Tables after = before.with(v, Table.filled(0, rows, columns));
        before.taken("shape(" + v + ", " + rows + ", " + columns + ")", d -> d.shape(v, rows, columns), after);
    }

    /** ".. if v is outside 0..3" */
    private static void testTables(Tables before) {
        new TableEdges("shape to 2, 3", 1, (d, t) -> d.shape(t[0], 2, 3), (a, b) -> Table.filled(0, 2, 3)).outside(before);
        for (int v = 0; v < 4; v++) {
            taken(before, v, 2, 3);
        }
    }

    /** ".. rows or columns outside 1..16" */
    private static void testSides(Tables before) {
        for (int side : NO_SIDES) {
            for (int other : new int[] {1, 3, 16}) {
                refused(before, 2, side, other);
                refused(before, 2, other, side);
            }
            refused(before, 2, side, side);
        }
        for (int side : new int[] {1, 2, 15, 16}) {
            for (int other = 1; other <= 3; other++) {
                taken(before, 2, side, other);
                taken(before, 2, other, side);
            }
        }
    }

    /** ".. or there would be more than 48 elements" */
    private static void testElements(Tables before) {
        for (int rows = 1; rows <= 16; rows++) {
            int most = Math.min(16, 48 / rows);
            taken(before, 1, rows, most);
            for (int columns = most + 1; columns <= 17; columns++) {
                refused(before, 1, rows, columns);
            }
        }
    }

    /** Sides whose product is 1..48 only because both are negative, or because an int wraps around. */
    private static void testProducts(Tables before) {
        int[][] sides = {
            {-1, -1}, {-3, -16}, {-16, -3}, {65536, 65536}, {1 << 30, 4}, {4, 1 << 30}, {Checks.LEAST, 2},
            {2, Checks.LEAST}, {Checks.LEAST, Checks.LEAST}, {Checks.GREATEST, Checks.GREATEST}, {-1, Checks.LEAST},
            {(1 << 28) + 1, 16}, {16, (1 << 28) + 1}, {Checks.GREATEST, -1}
        };
        for (int[] pair : sides) {
            refused(before, 0, pair[0], pair[1]);
        }
    }

    public static void main(String[] args) {
        for (Tables before : new Tables[] {Tables.furnished(), Tables.fresh(), Tables.alike(16, 3)}) {
            testTables(before);
            testSides(before);
            testElements(before);
            testProducts(before);
        }
        Checks.finish();
    }
}
