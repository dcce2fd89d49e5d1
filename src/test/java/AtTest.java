/** Promise 4: at. */
final class AtTest {
    private static void answers(Tables tables, int v, int i, int want) {
        tables.answers(tables.get(Math.floorMod(v, 4)) + ", at(" + v + ", " + i + ")", d -> d.at(v, i), want);
    }

    private static void testByHand() {
        Tables tables = Tables.furnished();
        answers(tables, 0, 1, 7);
        answers(tables, 0, 3, Checks.P - 1);
        answers(tables, 1, 0, 0);
        answers(tables, 2, 2, 23);
        answers(tables, 3, 2, 33);
    }

    /** "-1 if there is none": because there is no such table. */
    private static void testTables() {
        for (Tables tables : new Tables[] {Tables.furnished(), Tables.alike(16, 3)}) {
            for (int v : Checks.NO_TABLES) {
                answers(tables, v, 0, -1);
                answers(tables, v, 1, -1);
                answers(tables, v, -1, -1);
                answers(tables, v, v, -1);
            }
            for (int v = 0; v < 4; v++) {
                answers(tables, v, 0, tables.get(v).at(0, 0));
            }
        }
    }

    /** "-1 if there is none": because the table has no such element. */
    private static void testNumbers() {
        for (int[] shape : Checks.EDGE_SHAPES) {
            int n = shape[0] * shape[1];
            Tables tables = Tables.alike(shape[0], shape[1]);
            for (int v = 0; v < 4; v++) {
                answers(tables, v, 0, tables.get(v).elements()[0]);
                answers(tables, v, n - 1, tables.get(v).elements()[n - 1]);
                for (int i : new int[] {-1, n, n + 1, -48, 48, 192, Checks.LEAST, Checks.LEAST + 48, Checks.GREATEST}) {
                    answers(tables, v, i, -1);
                }
            }
        }
    }

    private static void testSmallerNow() {
        ExactTransformDesk desk = Tables.alike(6, 8).desk();
        desk.shape(2, 1, 3);
        Checks.due("at(2, 2) of three elements, once 48", desk.at(2, 2), 0);
        Checks.due("at(2, 3) of three elements, once 48", desk.at(2, 3), -1);
        Checks.due("at(2, 47) of three elements, once 48", desk.at(2, 47), -1);
    }

    public static void main(String[] args) {
        testByHand();
        testTables();
        testNumbers();
        testSmallerNow();
        Checks.finish();
    }
}
