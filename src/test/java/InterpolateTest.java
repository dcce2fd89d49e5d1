/** Promise 13: interpolate. */
final class InterpolateTest {
    private static void dueThrough(String call, int[] a, int[] b, int[] c) {
        Checks.due(call + ": elements", c.length, a.length);
        for (int i = 0; i < a.length; i++) {
            Checks.due(call + ": value at " + a[i], Reference.valueAt(c, a[i]), b[i]);
        }
    }

    private static void testPoints(int[] a, int[] b) {
        int n = a.length;
        ExactTransformDesk desk = Checks.used();
        Checks.fill(desk, 1, 1, n, a);
        Checks.fill(desk, 0, 1, n, b);
        desk.shape(3, 5, 9);
        String call = n + " points, interpolate(3, 1, 0)";
        Checks.due(call, desk.interpolate(3, 1, 0), true);
        int[] c = Checks.read(desk, 3);
        dueThrough(call, a, b, c);
        Checks.dueTable(call, desk, 3, 1, n, c);
        Checks.dueTable(call, desk, 1, 1, n, a);
        Checks.dueTable(call, desk, 0, 1, n, b);
        Checks.due(call + " into a", desk.interpolate(1, 1, 0), true);
        Checks.dueTable(call + " into a", desk, 1, 1, n, c);
        Checks.fill(desk, 1, 1, n, a);
        Checks.due(call + " into b", desk.interpolate(0, 1, 0), true);
        Checks.dueTable(call + " into b", desk, 0, 1, n, c);
    }

    private static int[] points(int first, int step, int n) {
        int[] a = new int[n];
        for (int i = 0; i < n; i++) {
            a[i] = Reference.mod(first + (long) step * i);
        }
        return a;
    }

    private static void testOnePolynomialForEveryOrder() {
        ExactTransformDesk desk = Checks.used();
        Checks.fill(desk, 0, 1, 3, 5, 0, 1);
        Checks.fill(desk, 1, 1, 3, 3 - 20 + 50, 3, 3 - 4 + 2);
        desk.interpolate(2, 0, 1);
        Checks.dueTable("3 - 4x + 2x^2", desk, 2, 1, 3, 3, Checks.P - 4, 2);
        desk.interpolate(2, 0, 0);
        Checks.dueTable("a with itself", desk, 2, 1, 3, 0, 1, 0);
        desk.interpolate(0, 0, 0);
        Checks.dueTable("all the same", desk, 0, 1, 3, 0, 1, 0);
        Checks.fill(desk, 0, 1, 1, 9);
        Checks.fill(desk, 1, 1, 1, 77);
        desk.interpolate(2, 0, 1);
        Checks.dueTable("one point", desk, 2, 1, 1, 77);
    }

    private static void testEveryRepeatIsRefused() {
        for (int n : new int[] {2, 3, 8, 16}) {
            for (int i = 0; i < n; i++) {
                for (int j = 0; j < i; j++) {
                    ExactTransformDesk desk = Checks.used();
                    Checks.fill(desk, 0, 1, n, points(0, 5, n));
                    Checks.fill(desk, 1, 1, n, points(3, 1, n));
                    desk.put(0, i, desk.at(0, j) - Checks.P);
                    String call = n + " points, " + i + " the same as " + j;
                    Checks.refused(call, desk, d -> d.interpolate(2, 0, 1));
                }
            }
        }
    }

    private static void testRefusals() {
        for (int v : Checks.NO_TABLES) {
            Checks.refused("interpolate(" + v + ", 0, 1)", Checks.furnished(), d -> d.interpolate(v, 0, 1));
            Checks.refused("interpolate(3, " + v + ", 1)", Checks.furnished(), d -> d.interpolate(3, v, 1));
            Checks.refused("interpolate(3, 0, " + v + ")", Checks.furnished(), d -> d.interpolate(3, 0, v));
            Checks.refused("interpolate(3, " + v + ", " + v + ")", Checks.furnished(), d -> d.interpolate(3, v, v));
        }
        Checks.refused("a with a repeat", Checks.furnished(), d -> d.interpolate(3, 1, 0));
        Checks.refused("2 by 2 with 2 by 2", Checks.furnished(), d -> d.interpolate(3, 2, 2));
        Checks.refused("1 by 4 with 2 by 2", Checks.furnished(), d -> d.interpolate(3, 0, 2));
        Checks.refused("2 by 2 with 1 by 4", Checks.furnished(), d -> d.interpolate(3, 2, 0));
        Checks.refused("4 with 3", Checks.furnished(), d -> d.interpolate(2, 0, 3));
        Checks.refused("3 with 4", Checks.furnished(), d -> d.interpolate(2, 3, 0));
        ExactTransformDesk desk = Checks.furnished();
        Checks.fill(desk, 1, 4, 1, 1, 2, 3, 4);
        Checks.refused("1 by 4 with 4 by 1", desk, d -> d.interpolate(2, 0, 1));
        Checks.refused("4 by 1 with 4 by 1", desk, d -> d.interpolate(2, 1, 1));
    }

    public static void main(String[] args) {
        for (int n = 1; n <= 16; n++) {
            testPoints(points(0, 1, n), Reference.series(n, n));
            testPoints(points(-3, -1, n), Reference.series(n + 20, n));
            testPoints(points(7, 123456789, n), Reference.series(n + 40, n));
            testPoints(points(Checks.P - 1, 63, n), Reference.repeated(Checks.P - 1, n));
            testPoints(points(5, 2, n), new int[n]);
        }
        testOnePolynomialForEveryOrder();
        testEveryRepeatIsRefused();
        testRefusals();
        Checks.finish();
    }
}
