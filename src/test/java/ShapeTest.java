/** Promise 2: shape. */
final class ShapeTest {
    private static final int[] SIDES = {
        Integer.MIN_VALUE, -16, -4, -1, 0, 1, 2, 3, 4, 5, 6, 7, 8, 9, 10, 11, 12, 13, 14, 15, 16, 17, 24,
        48, 49, 65536, 1 << 30, Integer.MAX_VALUE
    };

    private static void testEveryShape() {
        for (int rows : SIDES) {
            for (int columns : SIDES) {
                String call = "shape(1, " + rows + ", " + columns + ")";
                ExactTransformDesk desk = Checks.furnished();
                if (!Checks.isShape(rows, columns)) {
                    Checks.refused(call, desk, d -> d.shape(1, rows, columns));
                    continue;
                }
                Checks.due(call, desk.shape(1, rows, columns), true);
                Checks.dueTable(call, desk, 1, rows, columns, new int[rows * columns]);
                Checks.dueTable(call, desk, 0, 1, 4, 5, 7, 11, Checks.P - 1);
                Checks.dueTable(call, desk, 2, 2, 2, 21, 22, 23, 24);
            }
        }
    }

    private static void testOldElementsAreGone() {
        ExactTransformDesk desk = Checks.used();
        Checks.fill(desk, 3, 3, 16, Reference.repeated(9, 48));
        Checks.due("shape(3, 1, 1)", desk.shape(3, 1, 1), true);
        Checks.dueTable("shape to 1, 1", desk, 3, 1, 1, 0);
        Checks.due("shape(3, 16, 3)", desk.shape(3, 16, 3), true);
        Checks.dueTable("shape to 16, 3", desk, 3, 16, 3, new int[48]);
    }

    private static void testSameShapeAgainClears() {
        ExactTransformDesk desk = Checks.furnished();
        Checks.due("shape(0, 1, 4)", desk.shape(0, 1, 4), true);
        Checks.dueTable("shape to the same", desk, 0, 1, 4, 0, 0, 0, 0);
    }

    private static void testNoTable() {
        for (int v : Checks.NO_TABLES) {
            Checks.refused("shape(" + v + ", 2, 2)", Checks.furnished(), d -> d.shape(v, 2, 2));
        }
    }

    public static void main(String[] args) {
        testEveryShape();
        testOldElementsAreGone();
        testSameShapeAgainClears();
        testNoTable();
        Checks.finish();
    }
}
