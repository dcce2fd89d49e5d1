/** Promise 13: interpolate. */
final class InterpolateTest {
    /** Not by the equations that Definitions solves, but by the values of what the program answered. */
    private static void testThrough(Table a, Table b) {
        int n = a.count();
        ExactTransformDesk desk = Tables.furnished().with(1, a).with(0, b).desk();
        String call = a + ", " + b + ", interpolate(2, 1, 0)";
        Checks.due(call, desk.interpolate(2, 1, 0), true);
        Checks.due(call + ", then size(2)", desk.size(2), 32 + n);
        int[] c = new int[n];
        for (int i = 0; i < n; i++) {
            c[i] = desk.at(2, i);
        }
        for (int i = 0; i < n; i++) {
            Checks.due(call + ": value at " + a.at(0, i), Definitions.valueAt(Table.row(c), a.at(0, i)), b.at(0, i));
        }
        Tables.furnished().with(1, a).with(0, b).with(2, Table.row(c)).due(call, desk);
    }

    private static void testEveryLength() {
        for (int n = 1; n <= 16; n++) {
            testThrough(Table.steps(0, 1, 1, n), Table.spread(n, 1, n));
            testThrough(Table.steps(-3, -1, 1, n), Table.spread(n + 20, 1, n));
            testThrough(Table.steps(7, 123456789, 1, n), Table.spread(n + 40, 1, n));
            testThrough(Table.steps(Checks.P - 1, 63, 1, n), Table.filled(Checks.P - 1, 1, n));
            testThrough(Table.steps(5, 2, 1, n), Table.filled(0, 1, n));
        }
    }

    private static void testByHand() {
        Tables before = Tables.row(5, 0, 1).with(1, Table.row(33, 3, 1));
        before.taken("3 - 4x + 2x^2", d -> d.interpolate(2, 0, 1), before.with(2, Table.row(3, Checks.P - 4, 2)));
        before.taken("a with itself", d -> d.interpolate(2, 0, 0), before.with(2, Table.row(0, 1, 0)));
        before.taken("all the same", d -> d.interpolate(0, 0, 0), before.with(0, Table.row(0, 1, 0)));
        Tables single = Tables.row(9).with(1, Table.row(77));
        single.taken("one point", d -> d.interpolate(2, 0, 1), single.with(2, Table.row(77)));
        Tables pair = Tables.row(0, Checks.P - 1).with(1, Table.row(Checks.P - 1, 0));
        pair.taken("the least and the greatest point", d -> d.interpolate(2, 0, 1),
            pair.with(2, Table.row(Checks.P - 1, Checks.P - 1)));
    }

    public static void main(String[] args) {
        testEveryLength();
        testByHand();
        Checks.finish();
    }
}
