/** Promise 3: put. */
final class PutTest {
    private static final int[] NO_ELEMENTS_OF_FOUR = {
        4, 5, 16, 47, 48, 192, -1, -2, -48, Integer.MIN_VALUE, Integer.MAX_VALUE
    };

    private static void testEveryInt() {
        for (int x : Checks.EDGE_INTS) {
            ExactTransformDesk desk = Checks.furnished();
            String call = "put(2, 1, " + x + ")";
            Checks.due(call, desk.put(2, 1, x), true);
            Checks.dueTable(call, desk, 2, 2, 2, 21, Reference.mod(x), 23, 24);
        }
        ExactTransformDesk desk = Checks.used();
        desk.put(0, 0, -1);
        Checks.due("at after put of -1", desk.at(0, 0), 1014773760);
        desk.put(0, 0, 1014773761);
        Checks.due("at after put of P", desk.at(0, 0), 0);
        desk.put(0, 0, Integer.MIN_VALUE);
        Checks.due("at after put of -2147483648", desk.at(0, 0), 896837635);
        desk.put(0, 0, Integer.MAX_VALUE);
        Checks.due("at after put of 2147483647", desk.at(0, 0), 117936125);
    }

    private static void testTablesStandApart() {
        ExactTransformDesk desk = Checks.used();
        for (int v = 0; v < 4; v++) {
            desk.shape(v, 6, 8);
        }
        for (int v = 0; v < 4; v++) {
            Checks.due("put first", desk.put(v, 0, 100 + v), true);
            Checks.due("put last", desk.put(v, 47, 200 + v), true);
        }
        for (int v = 0; v < 4; v++) {
            int[] want = new int[48];
            want[0] = 100 + v;
            want[47] = 200 + v;
            Checks.dueTable("tables apart", desk, v, 6, 8, want);
        }
    }

    private static void testRefusals() {
        for (int v : Checks.NO_TABLES) {
            Checks.refused("put(" + v + ", 0, 1)", Checks.furnished(), d -> d.put(v, 0, 1));
        }
        for (int i : NO_ELEMENTS_OF_FOUR) {
            for (int v = 0; v < 3; v++) {
                int table = v;
                Checks.refused("put(" + v + ", " + i + ", 1)", Checks.furnished(), d -> d.put(table, i, 1));
            }
        }
        Checks.refused("put(3, 3, 1)", Checks.furnished(), d -> d.put(3, 3, 1));
    }

    public static void main(String[] args) {
        testEveryInt();
        testTablesStandApart();
        testRefusals();
        Checks.finish();
    }
}
