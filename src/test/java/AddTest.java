/** Promise 9: add. */
final class AddTest {
    private static int[] added(int[] a, int[] b, int factor) {
        int[] answer = new int[a.length];
        for (int i = 0; i < a.length; i++) {
            answer[i] = Reference.mod((long) a[i] + Reference.times(factor, b[i]));
        }
        return answer;
    }

    private static void testEveryShape() {
        for (int rows = 1; rows <= 16; rows++) {
            for (int columns = 1; columns <= 16; columns++) {
                if (Checks.isShape(rows, columns)) {
                    testShape(rows, columns, 3 - rows * columns);
                }
            }
        }
        for (int factor : Checks.EDGE_INTS) {
            testShape(3, 7, factor);
        }
    }

    private static void testShape(int rows, int columns, int factor) {
        int[] a = Reference.series(rows, rows * columns);
        int[] b = Reference.series(-columns, rows * columns);
        ExactTransformDesk desk = Checks.used();
        Checks.fill(desk, 2, rows, columns, a);
        Checks.fill(desk, 0, rows, columns, b);
        String call = rows + " by " + columns + ", add(3, 2, 0, " + factor + ")";
        Checks.due(call, desk.add(3, 2, 0, factor), true);
        Checks.dueTable(call, desk, 3, rows, columns, added(a, b, factor));
        Checks.dueTable(call, desk, 2, rows, columns, a);
        Checks.dueTable(call, desk, 0, rows, columns, b);
    }

    private static void testByHand() {
        ExactTransformDesk desk = Checks.furnished();
        Checks.due("add(2, 0, 1, -2)", desk.add(2, 0, 1, -2), true);
        Checks.dueTable("add into another shape", desk, 2, 1, 4, 5, Checks.P - 9, 5, Checks.P - 17);
        Checks.fill(desk, 1, 1, 4, Reference.repeated(Checks.P - 1, 4));
        Checks.due("add(1, 1, 1, 1014773760)", desk.add(1, 1, 1, Checks.P - 1), true);
        Checks.dueTable("greatest elements and factor", desk, 1, 1, 4, 0, 0, 0, 0);
    }

    private static void testTargetIsSource() {
        ExactTransformDesk desk = Checks.furnished();
        Checks.due("add(0, 0, 1, 3)", desk.add(0, 0, 1, 3), true);
        Checks.dueTable("c is a", desk, 0, 1, 4, 5, 31, 20, 23);
        desk = Checks.furnished();
        Checks.due("add(1, 0, 1, 3)", desk.add(1, 0, 1, 3), true);
        Checks.dueTable("c is b", desk, 1, 1, 4, 5, 31, 20, 23);
        Checks.due("add(2, 2, 2, 1)", desk.add(2, 2, 2, 1), true);
        Checks.dueTable("all the same", desk, 2, 2, 2, 42, 44, 46, 48);
    }

    private static void testRefusals() {
        for (int v : Checks.NO_TABLES) {
            Checks.refused("add(" + v + ", 0, 1, 1)", Checks.furnished(), d -> d.add(v, 0, 1, 1));
            Checks.refused("add(2, " + v + ", 1, 1)", Checks.furnished(), d -> d.add(2, v, 1, 1));
            Checks.refused("add(2, 0, " + v + ", 1)", Checks.furnished(), d -> d.add(2, 0, v, 1));
            Checks.refused("add(2, " + v + ", " + v + ", 1)", Checks.furnished(), d -> d.add(2, v, v, 1));
        }
        Checks.refused("add of 1 by 4 and 2 by 2", Checks.furnished(), d -> d.add(0, 0, 2, 1));
        Checks.refused("add of 2 by 2 and 1 by 4", Checks.furnished(), d -> d.add(2, 2, 0, 0));
        Checks.refused("add of 1 by 4 and 1 by 3", Checks.furnished(), d -> d.add(1, 0, 3, 1));
    }

    public static void main(String[] args) {
        testEveryShape();
        testByHand();
        testTargetIsSource();
        testRefusals();
        Checks.finish();
    }
}
