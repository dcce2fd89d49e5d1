/** Promise 13, its edges: "False, changing nothing, if a number is outside 0..3 or a and b are not such." */
final class InterpolateEdgesTest {
    private static final TableEdges EDGES = new TableEdges("interpolate", 3, (d, t) -> d.interpolate(t[0], t[1], t[2]),
        Definitions::interpolated);

    /** ".. if a number is outside 0..3" */
    private static void testTables() {
        EDGES.outside(Tables.alike(1, 1));
        EDGES.outside(Tables.alike(1, 4));
        EDGES.outside(Tables.alike(1, 16));
    }

    /** "Tables a and b must have one row each": a alone, b alone, or both have more. */
    private static void testRows() {
        EDGES.moreRows();
        for (int columns : new int[] {1, 2, 3, 16}) {
            Table row = Table.steps(2, 3, 1, columns);
            Table more = Table.steps(5, 4, 2, columns);
            Tables before = Tables.furnished().with(0, row).with(1, more);
            for (int c = 0; c < 4; c++) {
                EDGES.refused(before, c, 0, 1);
                EDGES.refused(before, c, 1, 0);
                EDGES.refused(before, c, 1, 1);
                EDGES.taken(before, c, 0, 0);
            }
        }
    }

    /** "and the same n": one more, one less, and as many elements in other rows. */
    private static void testLengths() {
        EDGES.shapesThatDiffer();
        for (int n = 2; n <= 16; n++) {
            Tables before = Tables.furnished().with(0, Table.steps(2, 3, 1, n)).with(1, Table.steps(5, 4, 1, n - 1));
            EDGES.refused(before, 2, 0, 1);
            EDGES.refused(before, 2, 1, 0);
            EDGES.taken(before.with(1, Table.steps(5, 4, 1, n)), 2, 0, 1);
        }
    }

    /** "the elements of a all different": every pair of places, the first two and the last two among them. */
    private static void testRepeats() {
        for (int n : new int[] {2, 3, 8, 15, 16}) {
            Tables before = Tables.alike(1, n);
            for (int i = 0; i < n; i++) {
                for (int j = 0; j < i; j++) {
                    Tables repeat = before.with(0, before.get(0).with(i, before.get(0).at(0, j)));
                    EDGES.refused(repeat, 2, 0, 1);
                    EDGES.refused(repeat, 0, 0, 1);
                    EDGES.refused(repeat, 1, 0, 1);
                    EDGES.refused(repeat, 2, 0, 0);
                    EDGES.refused(Tables.furnished().with(0, repeat.get(0)).with(2, repeat.get(2)), 1, 0, 2);
                }
            }
            EDGES.refused(before.with(0, Table.filled(7, 1, n)), 2, 0, 1);
        }
    }

    /** Numbers are the same element if they are so modulo P, and then only. */
    private static void testRepeatsModuloP() {
        int[][] same = {
            {0, Checks.P}, {0, -Checks.P}, {-1, Checks.P - 1}, {3, 3 - Checks.P}, {Checks.LEAST, 896837635},
            {Checks.GREATEST, 117936125}
        };
        for (int[] pair : same) {
            int element = Reference.mod(pair[0]);
            Tables after = Tables.row(element, element).with(1, Table.row(4, 5));
            Tables.row(1, 2).with(1, Table.row(4, 5)).taken("points " + pair[0] + " and " + pair[1],
                d -> d.put(0, 0, pair[0]) && d.put(0, 1, pair[1]) && !d.interpolate(2, 0, 1), after);
        }
        for (int[] pair : new int[][] {{0, 1}, {0, Checks.P - 1}, {Checks.P - 2, Checks.P - 1}, {1, Checks.P - 1}}) {
            EDGES.taken(Tables.row(pair).with(1, Table.row(4, 5)), 2, 0, 1);
            EDGES.taken(Tables.row(pair[1], pair[0]).with(1, Table.row(4, 5)), 2, 0, 1);
        }
    }

    /** Repeats count in a alone: the values in b may be all the same. */
    private static void testSameValues() {
        for (int n : new int[] {1, 2, 3, 15, 16}) {
            for (int value : new int[] {0, 1, 12, Checks.P - 1}) {
                Tables before = Tables.alike(1, n).with(1, Table.filled(value, 1, n));
                before.taken(n + " times " + value, d -> d.interpolate(2, 0, 1), before.with(2, Table.single(1, n, 0, value)));
            }
        }
    }

    /** 0 among the points, in every place. */
    private static void testZeroPoint() {
        for (int n : new int[] {1, 2, 3, 16}) {
            for (int place = 0; place < n; place++) {
                Tables before = Tables.alike(1, n);
                EDGES.taken(before.with(0, before.get(0).with(place, 0)), 2, 0, 1);
            }
        }
    }

    /** "c becomes the one row of n", whatever it was; c may be a or b, or all three the same. */
    private static void testTargets() {
        for (int n : new int[] {1, 2, 15, 16}) {
            EDGES.inside(Tables.alike(1, n));
            EDGES.oldShapes(Tables.alike(1, n));
        }
    }

    public static void main(String[] args) {
        testTables();
        testRows();
        testLengths();
        testRepeats();
        testRepeatsModuloP();
        testSameValues();
        testZeroPoint();
        testTargets();
        Checks.finish();
    }
}
