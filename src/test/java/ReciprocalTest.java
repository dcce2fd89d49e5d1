/** Promise 12: reciprocal. */
final class ReciprocalTest {
    /** The first n coefficients of the product must be 1, 0, 0, .. */
    private static void dueReciprocal(String call, int[] a, int[] c) {
        Checks.due(call + ": elements", c.length, a.length);
        for (int k = 0; k < a.length; k++) {
            long sum = 0;
            for (int i = 0; i <= k; i++) {
                sum += Reference.times(a[i], c[k - i]);
            }
            Checks.due(call + ": coefficient " + k + " of the product", Reference.mod(sum), k == 0 ? 1 : 0);
        }
    }

    private static void testRow(int[] a) {
        ExactTransformDesk desk = Checks.used();
        Checks.fill(desk, 3, 1, a.length, a);
        desk.shape(1, 6, 7);
        String call = a.length + " elements from " + a[0] + ", reciprocal(1, 3)";
        Checks.due(call, desk.reciprocal(1, 3), true);
        int[] c = Checks.read(desk, 1);
        dueReciprocal(call, a, c);
        Checks.dueTable(call, desk, 1, 1, a.length, c);
        Checks.dueTable(call, desk, 3, 1, a.length, a);
        Checks.due("reciprocal(3, 3)", desk.reciprocal(3, 3), true);
        Checks.dueTable(call + " in place", desk, 3, 1, a.length, c);
    }

    private static void testByHand() {
        ExactTransformDesk desk = Checks.deskWithRow(1, Checks.P - 1, 0, 0, 0);
        desk.reciprocal(1, 0);
        Checks.dueTable("of 1 - x", desk, 1, 1, 5, 1, 1, 1, 1, 1);
        Checks.fill(desk, 0, 1, 4, 1, 2, 0, 0);
        desk.reciprocal(0, 0);
        Checks.dueTable("of 1 + 2x", desk, 0, 1, 4, 1, Checks.P - 2, 4, Checks.P - 8);
        Checks.fill(desk, 0, 1, 1, 2);
        desk.reciprocal(2, 0);
        Checks.dueTable("of 2", desk, 2, 1, 1, 507386881);
    }

    private static void testRefusals() {
        for (int v : Checks.NO_TABLES) {
            Checks.refused("reciprocal(" + v + ", 0)", Checks.furnished(), d -> d.reciprocal(v, 0));
            Checks.refused("reciprocal(0, " + v + ")", Checks.furnished(), d -> d.reciprocal(0, v));
        }
        Checks.refused("reciprocal of a row from 0", Checks.furnished(), d -> d.reciprocal(0, 1));
        Checks.refused("reciprocal of a row from 0 in place", Checks.furnished(), d -> d.reciprocal(1, 1));
        Checks.refused("reciprocal of 2 by 2", Checks.furnished(), d -> d.reciprocal(0, 2));
        ExactTransformDesk desk = Checks.furnished();
        desk.put(0, 0, -Checks.P);
        Checks.refused("reciprocal of a row from -P", desk, d -> d.reciprocal(3, 0));
        Checks.fill(desk, 0, 3, 1, 1, 2, 3);
        Checks.refused("reciprocal of one column", desk, d -> d.reciprocal(3, 0));
        Checks.refused("reciprocal of the single 0", Checks.used(), d -> d.reciprocal(1, 0));
    }

    public static void main(String[] args) {
        for (int n = 1; n <= 16; n++) {
            for (int lead : new int[] {1, 2, 17, Checks.P - 1, 123456789}) {
                int[] a = Reference.series(n + lead, n);
                a[0] = lead;
                testRow(a);
            }
            testRow(Reference.repeated(Checks.P - 1, n));
        }
        testByHand();
        testRefusals();
        Checks.finish();
    }
}
