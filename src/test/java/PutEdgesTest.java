/** Promise 3, its edges. */
final class PutEdgesTest {
    private static void refused(Tables before, int v, int i, int x) {
        before.refused("put(" + v + ", " + i + ", " + x + ")", d -> d.put(v, i, x));
    }

    /** "the element that x is modulo P (x any int; for negative ones too it is 0..P-1)" */
    private static void testEveryInt() {
        Tables before = Tables.furnished();
        for (int x : Checks.ANY_INTS) {
            for (int v = 0; v < 4; v++) {
                int table = v;
                Tables after = before.with(v, before.get(v).with(1, Reference.mod(x)));
                before.taken("put(" + v + ", 1, " + x + ")", d -> d.put(table, 1, x), after);
            }
        }
    }

    /** "False, changing nothing, if v is outside 0..3" */
    private static void testTables() {
        TableEdges edges = new TableEdges("put of 9 as element 0", 1, (d, t) -> d.put(t[0], 0, 9), (a, b) -> a.with(0, 9));
        edges.outside(Tables.furnished());
        edges.inside(Tables.furnished());
        edges.outside(Tables.alike(3, 16));
        edges.inside(Tables.alike(3, 16));
    }

    /** "or i is no element's number": the first ones outside, the last ones inside, and ones that other tables have. */
    private static void testNumbers() {
        for (int[] shape : Checks.EDGE_SHAPES) {
            int n = shape[0] * shape[1];
            Tables before = Tables.alike(shape[0], shape[1]);
            int[] outside = {-1, -2, n, n + 1, -48, 48, 49, 96, 192, 1 << 28, Checks.LEAST, Checks.LEAST + 48, Checks.GREATEST};
            for (int v = 0; v < 4; v++) {
                for (int i : outside) {
                    refused(before, v, i, 9);
                }
                for (int i : new int[] {0, n - 1}) {
                    int table = v;
                    Tables after = before.with(v, before.get(v).with(i, 9));
                    before.taken("put(" + v + ", " + i + ", 9)", d -> d.put(table, i, 9), after);
                }
            }
        }
    }

    /** A number that was an element's before the table became smaller is none any more. */
    private static void testSmallerNow() {
        Tables before = Tables.alike(6, 8);
        for (int v = 0; v < 4; v++) {
            int table = v;
            Tables after = before.with(v, Table.filled(0, 2, 2));
            before.taken("put outside after shape", d -> d.shape(table, 2, 2) && !d.put(table, 4, 9) && !d.put(table, 47, 9),
                after);
        }
    }

    public static void main(String[] args) {
        testEveryInt();
        testTables();
        testNumbers();
        testSmallerNow();
        Checks.finish();
    }
}
