/** Promise 5: size. */
final class SizeTest {
    private static void testEveryShape() {
        for (int[] shape : Checks.everyShape()) {
            Tables tables = Tables.furnished().with(3, Table.spread(5, shape[0], shape[1]));
            tables.answers("size(3)", d -> d.size(3), shape[0] * 32 + shape[1]);
        }
    }

    private static void testByHand() {
        ExactTransformDesk desk = Tables.furnished().desk();
        Checks.due("size of 1 by 4", desk.size(0), 36);
        Checks.due("size of 2 by 2", desk.size(2), 66);
        desk.shape(0, 16, 3);
        Checks.due("size of 16 by 3", desk.size(0), 515);
        desk.shape(0, 3, 16);
        Checks.due("size of 3 by 16", desk.size(0), 112);
        desk.shape(0, 16, 1);
        Checks.due("size of 16 by 1", desk.size(0), 513);
        desk.shape(0, 1, 16);
        Checks.due("size of 1 by 16", desk.size(0), 48);
        desk.shape(0, 1, 17);
        Checks.due("size after a refused shape", desk.size(0), 48);
    }

    /** "-1 if v is outside 0..3" */
    private static void testTables() {
        for (Tables tables : new Tables[] {Tables.furnished(), Tables.alike(16, 3), Tables.fresh()}) {
            for (int v : Checks.NO_TABLES) {
                tables.answers("size(" + v + ")", d -> d.size(v), -1);
            }
            for (int v = 0; v < 4; v++) {
                int table = v;
                int want = tables.get(v).rows() * 32 + tables.get(v).columns();
                tables.answers("size(" + v + ")", d -> d.size(table), want);
            }
        }
    }

    public static void main(String[] args) {
        testEveryShape();
        testByHand();
        testTables();
        Checks.finish();
    }
}
