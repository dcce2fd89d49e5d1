/** Promise 6, its edges. */
final class TransformEdgesTest {
    private static final boolean[] WAYS = {false, true};

    private static TableEdges edges(int axis, boolean back) {
        return new TableEdges("transform, axis " + axis + ", back " + back, 1, (d, t) -> d.transform(t[0], axis, back),
            (a, b) -> Definitions.transformed(a, axis, back));
    }

    /** "False, changing nothing, if v is outside 0..3 or axis outside 0..2." */
    private static void testRefusals(boolean back) {
        for (Tables before : new Tables[] {Tables.furnished(), Tables.alike(3, 16)}) {
            for (int axis = 0; axis <= 2; axis++) {
                edges(axis, back).outside(before);
                edges(axis, back).inside(before);
            }
            for (int axis : new int[] {-1, 3, 4, -2, Checks.LEAST, Checks.GREATEST}) {
                for (int v = 0; v < 4; v++) {
                    edges(axis, back).refused(before, v);
                }
                edges(axis, back).outside(before);
            }
        }
    }

    /** A line of one element is left as it is: the root is 1 and so is the divisor. */
    private static void testLinesOfOne(boolean back) {
        Tables single = Tables.alike(1, 1);
        Tables row = Tables.alike(1, 16);
        Tables column = Tables.alike(16, 1);
        for (int v = 0; v < 4; v++) {
            int table = v;
            for (int axis = 0; axis <= 2; axis++) {
                int asked = axis;
                single.taken("a single element, axis " + axis, d -> d.transform(table, asked, back), single);
            }
            row.taken("columns of one", d -> d.transform(table, 1, back), row);
            column.taken("rows of one", d -> d.transform(table, 0, back), column);
        }
    }

    /** Sums of the greatest elements: far above P, and just P or one off. */
    private static void testSums() {
        for (int[] shape : Checks.EDGE_SHAPES) {
            int n = shape[0] * shape[1];
            Tables before = Tables.fresh().with(1, Table.filled(Checks.P - 1, shape[0], shape[1]));
            before.taken(n + " times P - 1", d -> d.transform(1, 2, false),
                before.with(1, Table.single(shape[0], shape[1], 0, Checks.P - n)));
        }
        testPair(Checks.P - 1, 1, 0, Checks.P - 2);
        testPair(Checks.P - 1, 2, 1, Checks.P - 3);
        testPair(Checks.P - 1, 0, Checks.P - 1, Checks.P - 1);
        testPair(0, 1, 1, Checks.P - 1);
    }

    private static void testPair(int first, int second, int sum, int difference) {
        Tables before = Tables.row(first, second);
        before.taken("transform of " + first + ", " + second, d -> d.transform(0, 0, false), Tables.row(sum, difference));
    }

    /** w^(j*k) with the last j, where j*k goes round n most often: it is w^(-k), and w^k if back. */
    private static void testPowersGoRound() {
        for (int n = 2; n <= 16; n++) {
            Tables before = Tables.fresh().with(0, Table.single(1, n, n - 1, 1));
            int[] forth = new int[n];
            int[] back = new int[n];
            for (int k = 0; k < n; k++) {
                forth[k] = Reference.power(Checks.G, -(long) (Checks.P - 1) / n * k);
                back[k] = Reference.times(Reference.power(Checks.G, (long) (Checks.P - 1) / n * k), Reference.inverse(n));
            }
            before.taken("the last of " + n + " is 1", d -> d.transform(0, 0, false), Tables.row(forth));
            before.taken("the last of " + n + " is 1, back", d -> d.transform(0, 0, true), Tables.row(back));
        }
    }

    /** "and all divided by n": n times an element of 1/n is 1, and for axis 2 both sides divide. */
    private static void testDivided() {
        for (int[] shape : Checks.EDGE_SHAPES) {
            int n = shape[0] * shape[1];
            Tables before = Tables.furnished().with(2, Table.single(shape[0], shape[1], 0, n));
            before.taken("element 0 is " + n + ", back", d -> d.transform(2, 2, true),
                before.with(2, Table.filled(1, shape[0], shape[1])));
        }
    }

    public static void main(String[] args) {
        for (boolean back : WAYS) {
            testRefusals(back);
            testLinesOfOne(back);
            for (int axis = 0; axis <= 2; axis++) {
                edges(axis, back).shapes();
            }
        }
        testSums();
        testPowersGoRound();
        testDivided();
        Checks.finish();
    }
}
