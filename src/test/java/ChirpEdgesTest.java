/** Promise 8, its edges. */
final class ChirpEdgesTest {
    private static TableEdges edges(int start, int step) {
        return new TableEdges("chirp from " + start + " by " + step, 2, (d, t) -> d.chirp(t[0], t[1], start, step),
            (a, b) -> Definitions.chirped(a, start, step));
    }

    /** "False, changing nothing, if a number is outside 0..3 or a has more rows." */
    private static void testRefusals() {
        for (int start : new int[] {0, 3, Checks.LEAST}) {
            edges(start, 1).outside(Tables.alike(1, 1));
            edges(start, 1).outside(Tables.alike(1, 16));
            edges(start, 1).moreRows();
        }
        // The target may have had more rows: only those of a count.
        edges(3, 4).refused(Tables.furnished(), 0, 2);
        edges(3, 4).taken(Tables.furnished(), 2, 0);
    }

    /** "c becomes one row of n", whatever it was; c may be a. */
    private static void testTargets() {
        for (int n : new int[] {1, 2, 15, 16}) {
            edges(3, -7).inside(Tables.alike(1, n));
            edges(-3, 7).oldShapes(Tables.alike(1, n));
        }
    }

    /** With the single coefficient of x^1, c[k] is G^(start + k * step): no int may wrap around on the way. */
    private static void testEveryStartAndStep() {
        Table a = Table.single(1, 16, 1, 1);
        Tables before = Tables.furnished().with(3, a);
        for (int start : Checks.ANY_INTS) {
            for (int step : Checks.ANY_INTS) {
                int[] want = new int[16];
                for (int k = 0; k < 16; k++) {
                    want[k] = Reference.power(Checks.G, start + (long) k * step);
                }
                String call = a + ", chirp(0, 3, " + start + ", " + step + ")";
                before.taken(call, d -> d.chirp(0, 3, start, step), before.with(0, Table.row(want)));
            }
        }
    }

    /** G^(j * ..) with every j up to the last, where the exponents are greatest. */
    private static void testEveryCoefficient() {
        int[] ends = {Checks.LEAST, Checks.GREATEST, Checks.P - 1, -1, 0};
        for (int place = 0; place < 16; place++) {
            Table a = Table.single(1, 16, place, Checks.P - 1);
            Tables before = Tables.fresh().with(1, a);
            for (int start : ends) {
                for (int step : ends) {
                    String call = a + ", chirp(2, 1, " + start + ", " + step + ")";
                    before.taken(call, d -> d.chirp(2, 1, start, step), before.with(2, Definitions.chirped(a, start, step)));
                }
            }
        }
    }

    /** "negative powers are those of 1 / G"; the powers come again after P - 1. */
    private static void testNegativePowers() {
        int inverse = Reference.inverse(Checks.G);
        Tables before = Tables.row(0, 1, 0);
        Tables around = Tables.row(inverse, 1, 17);
        before.taken("powers -1, 0, 1", d -> d.chirp(0, 0, -1, 1), around);
        before.taken("powers P-2, P-1, P", d -> d.chirp(0, 0, Checks.P - 2, 1), around);
        before.taken("powers 1, 0, -1", d -> d.chirp(0, 0, 1, -1), Tables.row(17, 1, inverse));
        before.taken("powers -P, 1-P, 2-P", d -> d.chirp(0, 0, -Checks.P, 1), around);
        before.taken("steps of P-1", d -> d.chirp(0, 0, 1, Checks.P - 1), Tables.row(17, 17, 17));
        before.taken("steps of 1-P", d -> d.chirp(0, 0, -1, 1 - Checks.P), Tables.row(inverse, inverse, inverse));
    }

    /** Sums that are just P, or far above it. */
    private static void testSums() {
        Tables.row(Checks.P - 1, 1).taken("sums of P", d -> d.chirp(0, 0, 0, 0), Tables.row(0, 0));
        Tables all = Tables.fresh().with(0, Table.filled(Checks.P - 1, 1, 16));
        all.taken("16 times P - 1", d -> d.chirp(1, 0, 0, 0), all.with(1, Table.filled(Checks.P - 16, 1, 16)));
        for (int x : Checks.ANY_INTS) {
            Tables.row(8).taken("one element, from " + x, d -> d.chirp(0, 0, x, x), Tables.row(8));
        }
    }

    public static void main(String[] args) {
        testRefusals();
        testTargets();
        testEveryStartAndStep();
        testEveryCoefficient();
        testNegativePowers();
        testSums();
        Checks.finish();
    }
}
