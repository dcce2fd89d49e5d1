/** Promise 6: transform. */
final class TransformTest {
    /** The double sum of the definition; a side of length 1 stands for an axis that is left alone. */
    private static int[] transformed(int[] x, int rows, int columns, int axis, boolean back) {
        int[] answer = new int[rows * columns];
        int along = axis == 1 ? 1 : columns;
        int down = axis == 0 ? 1 : rows;
        int columnRoot = Reference.power(Checks.G, (Checks.P - 1) / along * (back ? -1L : 1L));
        int rowRoot = Reference.power(Checks.G, (Checks.P - 1) / down * (back ? -1L : 1L));
        for (int k = 0; k < rows; k++) {
            for (int l = 0; l < columns; l++) {
                long sum = 0;
                for (int i = 0; i < down; i++) {
                    for (int j = 0; j < along; j++) {
                        int from = (axis == 0 ? k : i) * columns + (axis == 1 ? l : j);
                        int weight = Reference.times(power(rowRoot, i * k), power(columnRoot, j * l));
                        sum += (long) x[from] * weight % Checks.P;
                    }
                }
                int scale = back ? Reference.inverse((long) along * down) : 1;
                answer[k * columns + l] = Reference.times(sum, scale);
            }
        }
        return answer;
    }

    private static int power(int base, int exponent) {
        return base == 1 ? 1 : Reference.power(base, exponent);
    }

    private static void testShape(int rows, int columns) {
        int[] x = Reference.series(rows * 100 + columns, rows * columns);
        for (int axis = 0; axis <= 2; axis++) {
            for (boolean back : new boolean[] {false, true}) {
                ExactTransformDesk desk = Checks.used();
                int v = (rows + columns + axis) % 4;
                Checks.fill(desk, v, rows, columns, x);
                String call = rows + " by " + columns + ", transform(" + v + ", " + axis + ", " + back + ")";
                Checks.due(call, desk.transform(v, axis, back), true);
                Checks.dueTable(call, desk, v, rows, columns, transformed(x, rows, columns, axis, back));
                Checks.due(call + " and back", desk.transform(v, axis, !back), true);
                Checks.dueTable(call + " and back", desk, v, rows, columns, x);
            }
        }
    }

    private static void testByHand() {
        ExactTransformDesk desk = Checks.furnished();
        Checks.due("transform(2, 0, false)", desk.transform(2, 0, false), true);
        Checks.dueTable("rows of 2", desk, 2, 2, 2, 43, Checks.P - 1, 47, Checks.P - 1);
        Checks.fill(desk, 2, 2, 2, 21, 22, 23, 24);
        Checks.due("transform(2, 1, false)", desk.transform(2, 1, false), true);
        Checks.dueTable("columns of 2", desk, 2, 2, 2, 44, 46, Checks.P - 2, Checks.P - 2);
        Checks.fill(desk, 2, 2, 2, 21, 22, 23, 24);
        Checks.due("transform(2, 2, false)", desk.transform(2, 2, false), true);
        Checks.dueTable("both of 2", desk, 2, 2, 2, 90, Checks.P - 2, Checks.P - 4, 0);
        Checks.dueTable("the other tables", desk, 0, 1, 4, 5, 7, 11, Checks.P - 1);
        Checks.dueTable("the other tables", desk, 3, 1, 3, 31, 32, 33);
    }

    private static void testGreatestElements() {
        ExactTransformDesk desk = Checks.used();
        Checks.fill(desk, 1, 3, 16, Reference.repeated(Checks.P - 1, 48));
        Checks.due("transform(1, 2, false)", desk.transform(1, 2, false), true);
        int[] want = new int[48];
        want[0] = Checks.P - 48;
        Checks.dueTable("greatest elements", desk, 1, 3, 16, want);
    }

    private static void testRefusals() {
        for (int v : Checks.NO_TABLES) {
            Checks.refused("transform(" + v + ", 0, false)", Checks.furnished(), d -> d.transform(v, 0, false));
        }
        for (int axis : new int[] {-1, 3, 4, Integer.MIN_VALUE, Integer.MAX_VALUE}) {
            Checks.refused("transform(2, " + axis + ", true)", Checks.furnished(), d -> d.transform(2, axis, true));
            Checks.refused("transform(2, " + axis + ", false)", Checks.furnished(), d -> d.transform(2, axis, false));
        }
    }

    public static void main(String[] args) {
        for (int rows = 1; rows <= 16; rows++) {
            for (int columns = 1; columns <= 16; columns++) {
                if (Checks.isShape(rows, columns)) {
                    testShape(rows, columns);
                }
            }
        }
        testByHand();
        testGreatestElements();
        testRefusals();
        Checks.finish();
    }
}
