/** Promise 7, its edges. */
final class ConvolveEdgesTest {
    private static final int[] NO_KINDS = {-1, 3, 4, -2, Checks.LEAST, Checks.GREATEST};

    private static TableEdges edges(int kind) {
        return new TableEdges("convolve, kind " + kind, 3, (d, t) -> d.convolve(t[0], t[1], t[2], kind),
            (a, b) -> Definitions.convolved(a, b, kind));
    }

    /** "False, changing nothing, if a number is outside 0..3, kind outside 0..2, or the shapes differ." */
    private static void testRefusals() {
        for (int kind = 0; kind <= 2; kind++) {
            edges(kind).outside(Tables.alike(1, 4));
            edges(kind).outside(Tables.alike(3, 16));
            edges(kind).shapesThatDiffer();
        }
        for (int kind : NO_KINDS) {
            edges(kind).refused(Tables.alike(2, 3), 2, 0, 1);
            edges(kind).refused(Tables.alike(2, 3), 3, 3, 3);
            edges(kind).refused(Tables.alike(1, 1), 0, 0, 0);
            edges(kind).outside(Tables.alike(2, 3));
            edges(kind).shapesThatDiffer();
        }
    }

    /** "c gets it", the shape; "what is read is what was there before the call". */
    private static void testTargets() {
        for (int kind = 0; kind <= 2; kind++) {
            edges(kind).inside(Tables.alike(2, 3));
            edges(kind).inside(Tables.alike(1, 1));
            edges(kind).shapes();
            edges(kind).oldShapes(Tables.alike(3, 2));
            edges(kind).oldShapes(Tables.alike(16, 3));
        }
    }

    /** A single 2 in a and a single 3 in b meet in one place only: "mod r" and "mod s" say where, kind 2 the sign. */
    private static void testSingles(int r, int s, int fromA, int fromB) {
        int i = fromA / s;
        int j = fromA % s;
        int row = fromB / s;
        int column = fromB % s;
        Tables before = Tables.furnished().with(0, Table.single(r, s, fromA, 2)).with(1, Table.single(r, s, fromB, 3));
        int forward = (i + row) % r * s + (j + column) % s;
        int behind = (row - i + r) % r * s + (column - j + s) % s;
        int signed = j + column < s ? 6 : Checks.P - 6;
        String call = r + " by " + s + ", 2 at " + fromA + ", 3 at " + fromB;
        before.taken(call + ", kind 0", d -> d.convolve(2, 0, 1, 0), before.with(2, Table.single(r, s, forward, 6)));
        before.taken(call + ", kind 1", d -> d.convolve(2, 0, 1, 1), before.with(2, Table.single(r, s, behind, 6)));
        before.taken(call + ", kind 2", d -> d.convolve(2, 0, 1, 2), before.with(2, Table.single(r, s, forward, signed)));
    }

    private static void testEverySingle() {
        for (int[] shape : new int[][] {{1, 1}, {1, 2}, {2, 1}, {2, 3}, {3, 2}, {1, 16}, {16, 1}}) {
            int n = shape[0] * shape[1];
            for (int place = 0; place < n * n; place++) {
                testSingles(shape[0], shape[1], place / n, place % n);
            }
        }
        for (int[] shape : new int[][] {{3, 16}, {16, 3}, {6, 8}}) {
            for (int place : new int[] {0, 1, shape[1] - 1, shape[1], 24, 48 - shape[1], 47}) {
                testSingles(shape[0], shape[1], place, 47);
                testSingles(shape[0], shape[1], 47, place);
                testSingles(shape[0], shape[1], place, place);
            }
        }
    }

    /** Sums that are just P, or that a negative term leaves below 0. */
    private static void testSums() {
        Tables before = Tables.row(1, 1).with(1, Table.row(Checks.P - 1, 1));
        before.taken("sums of P, kind 0", d -> d.convolve(2, 0, 1, 0), before.with(2, Table.row(0, 0)));
        before.taken("sums of P, kind 1", d -> d.convolve(2, 0, 1, 1), before.with(2, Table.row(0, 0)));
        before.taken("P - 2 and P, kind 2", d -> d.convolve(2, 0, 1, 2), before.with(2, Table.row(Checks.P - 2, 0)));
        Tables zero = Tables.row(1, 1).with(1, Table.row(0, 0));
        zero.taken("negative of 0, kind 2", d -> d.convolve(2, 0, 1, 2), zero.with(2, Table.row(0, 0)));
        Tables single = Tables.row(Checks.P - 1).with(1, Table.row(Checks.P - 1));
        single.taken("one by one, kind 2", d -> d.convolve(2, 0, 1, 2), single.with(2, Table.row(1)));
    }

    public static void main(String[] args) {
        testRefusals();
        testTargets();
        testEverySingle();
        testSums();
        Checks.finish();
    }
}
