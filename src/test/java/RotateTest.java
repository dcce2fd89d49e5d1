/** Promise 11: rotate. */
final class RotateTest {
    private static int[] rotated(int[] x, int rows, int columns, int by) {
        int[] answer = new int[x.length];
        for (int i = 0; i < rows; i++) {
            for (int j = 0; j < columns; j++) {
                answer[i * columns + j] = x[i * columns + Math.floorMod((long) j + by, columns)];
            }
        }
        return answer;
    }

    private static void testShape(int rows, int columns, int by) {
        int[] x = Reference.series(rows * 40 + columns, rows * columns);
        ExactTransformDesk desk = Checks.furnished();
        Checks.fill(desk, 2, rows, columns, x);
        String call = rows + " by " + columns + ", rotate(2, " + by + ")";
        Checks.due(call, desk.rotate(2, by), true);
        Checks.dueTable(call, desk, 2, rows, columns, rotated(x, rows, columns, by));
        Checks.dueTable(call, desk, 1, 1, 4, 0, 8, 3, 8);
        Checks.dueTable(call, desk, 3, 1, 3, 31, 32, 33);
    }

    private static void testByHand() {
        ExactTransformDesk desk = Checks.used();
        Checks.fill(desk, 3, 2, 3, 1, 2, 3, 4, 5, 6);
        Checks.due("rotate(3, 1)", desk.rotate(3, 1), true);
        Checks.dueTable("by 1", desk, 3, 2, 3, 2, 3, 1, 5, 6, 4);
        Checks.due("rotate(3, -2)", desk.rotate(3, -2), true);
        Checks.dueTable("by -2 after that", desk, 3, 2, 3, 3, 1, 2, 6, 4, 5);
    }

    public static void main(String[] args) {
        for (int rows = 1; rows <= 16; rows++) {
            for (int columns = 1; columns <= 16; columns++) {
                for (int by = -columns - 1; by <= columns + 1 && Checks.isShape(rows, columns); by++) {
                    testShape(rows, columns, by);
                }
                for (int k = 0; k < Checks.EDGE_INTS.length && Checks.isShape(rows, columns); k++) {
                    testShape(rows, columns, Checks.EDGE_INTS[k]);
                }
            }
        }
        testByHand();
        for (int v : Checks.NO_TABLES) {
            Checks.refused("rotate(" + v + ", 1)", Checks.furnished(), d -> d.rotate(v, 1));
        }
        Checks.finish();
    }
}
