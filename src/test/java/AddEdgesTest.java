/** Promise 9, its edges. */
final class AddEdgesTest {
    private static TableEdges edges(int factor) {
        return new TableEdges("add, factor " + factor, 3, (d, t) -> d.add(t[0], t[1], t[2], factor),
            (a, b) -> Definitions.added(a, b, factor));
    }

    /** "False, changing nothing, if a number is outside 0..3 or the shapes differ." */
    private static void testRefusals() {
        for (int factor : new int[] {0, 1, Checks.LEAST, Checks.GREATEST}) {
            edges(factor).outside(Tables.alike(1, 4));
            edges(factor).outside(Tables.alike(16, 3));
            edges(factor).shapesThatDiffer();
        }
    }

    /** "c gets it", the shape; "what is read is what was there before the call". */
    private static void testTargets() {
        edges(-5).inside(Tables.alike(2, 3));
        edges(Checks.GREATEST).inside(Tables.alike(1, 1));
        edges(Checks.LEAST).shapes();
        edges(7).oldShapes(Tables.alike(2, 5));
        edges(7).oldShapes(Tables.alike(3, 16));
    }

    /** "plus factor times that of b" with any int as the factor, and the least and greatest elements. */
    private static void testFactors() {
        Table a = Table.row(0, 1, Checks.P - 1, Checks.P - 1, 0, 1, Checks.P - 1, 5, 0);
        Table b = Table.row(0, 0, 0, 1, 1, Checks.P - 1, Checks.P - 1, 2, Checks.P - 1);
        Tables before = Tables.furnished().with(0, a).with(1, b);
        for (int factor : Checks.ANY_INTS) {
            edges(factor).taken(before, 2, 0, 1);
            edges(factor).taken(before, 2, 1, 0);
            edges(factor).inside(Tables.alike(1, 2));
        }
    }

    /** Sums that are just below P, just P and just above it. */
    private static void testSums() {
        Tables before = Tables.row(Checks.P - 2, Checks.P - 1, Checks.P - 1, 0).with(1, Table.row(1, 1, 2, Checks.P - 1));
        before.taken("sums around P", d -> d.add(2, 0, 1, 1), before.with(2, Table.row(Checks.P - 1, 0, 1, Checks.P - 1)));
        before.taken("differences", d -> d.add(2, 0, 1, -1),
            before.with(2, Table.row(Checks.P - 3, Checks.P - 2, Checks.P - 3, 1)));
        Tables full = Tables.fresh().with(3, Table.filled(Checks.P - 1, 6, 8));
        full.taken("greatest elements and factor", d -> d.add(1, 3, 3, Checks.P - 1), full.with(1, Table.filled(0, 6, 8)));
    }

    public static void main(String[] args) {
        testRefusals();
        testTargets();
        testFactors();
        testSums();
        Checks.finish();
    }
}
