/** Promise 10: multiply. */
final class MultiplyTest {
    private static int[] multiplied(int[] a, int[] b) {
        int[] answer = new int[a.length];
        for (int i = 0; i < a.length; i++) {
            answer[i] = Reference.times(a[i], b[i]);
        }
        return answer;
    }

    private static void testShape(int rows, int columns) {
        int[] a = Reference.series(7 * rows, rows * columns);
        int[] b = Reference.series(-7 * columns, rows * columns);
        ExactTransformDesk desk = Checks.used();
        Checks.fill(desk, 1, rows, columns, a);
        Checks.fill(desk, 3, rows, columns, b);
        String call = rows + " by " + columns + ", multiply(0, 1, 3)";
        Checks.due(call, desk.multiply(0, 1, 3), true);
        Checks.dueTable(call, desk, 0, rows, columns, multiplied(a, b));
        Checks.dueTable(call, desk, 1, rows, columns, a);
        Checks.dueTable(call, desk, 3, rows, columns, b);
    }

    private static void testByHand() {
        ExactTransformDesk desk = Checks.furnished();
        Checks.due("multiply(2, 0, 1)", desk.multiply(2, 0, 1), true);
        Checks.dueTable("multiply into another shape", desk, 2, 1, 4, 0, 56, 33, Checks.P - 8);
        Checks.fill(desk, 1, 1, 4, Reference.repeated(Checks.P - 1, 4));
        Checks.due("multiply(3, 1, 1)", desk.multiply(3, 1, 1), true);
        Checks.dueTable("greatest elements", desk, 3, 1, 4, 1, 1, 1, 1);
    }

    private static void testTargetIsSource() {
        ExactTransformDesk desk = Checks.furnished();
        Checks.due("multiply(0, 0, 1)", desk.multiply(0, 0, 1), true);
        Checks.dueTable("c is a", desk, 0, 1, 4, 0, 56, 33, Checks.P - 8);
        desk = Checks.furnished();
        Checks.due("multiply(1, 0, 1)", desk.multiply(1, 0, 1), true);
        Checks.dueTable("c is b", desk, 1, 1, 4, 0, 56, 33, Checks.P - 8);
        Checks.due("multiply(2, 2, 2)", desk.multiply(2, 2, 2), true);
        Checks.dueTable("all the same", desk, 2, 2, 2, 441, 484, 529, 576);
    }

    private static void testRefusals() {
        for (int v : Checks.NO_TABLES) {
            Checks.refused("multiply(" + v + ", 0, 1)", Checks.furnished(), d -> d.multiply(v, 0, 1));
            Checks.refused("multiply(2, " + v + ", 1)", Checks.furnished(), d -> d.multiply(2, v, 1));
            Checks.refused("multiply(2, 0, " + v + ")", Checks.furnished(), d -> d.multiply(2, 0, v));
            Checks.refused("multiply(2, " + v + ", " + v + ")", Checks.furnished(), d -> d.multiply(2, v, v));
        }
        Checks.refused("multiply of 1 by 4 and 2 by 2", Checks.furnished(), d -> d.multiply(0, 0, 2));
        Checks.refused("multiply of 2 by 2 and 1 by 4", Checks.furnished(), d -> d.multiply(2, 2, 0));
        Checks.refused("multiply of 1 by 4 and 1 by 3", Checks.furnished(), d -> d.multiply(1, 0, 3));
    }

    public static void main(String[] args) {
        for (int rows = 1; rows <= 16; rows++) {
            for (int columns = 1; columns <= 16; columns++) {
                if (Checks.isShape(rows, columns)) {
                    testShape(rows, columns);
                }
            }
        }
        testByHand();
        testTargetIsSource();
        testRefusals();
        Checks.finish();
    }
}
