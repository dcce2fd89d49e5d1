/** Promise 7: convolve. */
final class ConvolveTest {
    private static int[] convolved(int[] a, int[] b, int rows, int columns, int kind) {
        int[] answer = new int[rows * columns];
        for (int k = 0; k < rows; k++) {
            for (int l = 0; l < columns; l++) {
                long sum = 0;
                for (int i = 0; i < rows; i++) {
                    for (int j = 0; j < columns; j++) {
                        int row = Math.floorMod(kind == 1 ? k + i : k - i, rows);
                        int column = Math.floorMod(kind == 1 ? l + j : l - j, columns);
                        int term = Reference.times(a[i * columns + j], b[row * columns + column]);
                        sum += kind == 2 && l < j ? -term : term;
                    }
                }
                answer[k * columns + l] = Reference.mod(sum);
            }
        }
        return answer;
    }

    private static void testTables(int[] a, int[] b, int rows, int columns, int kind) {
        ExactTransformDesk desk = Checks.used();
        int left = kind;
        int right = (kind + 1) % 4;
        int target = (kind + 2) % 4;
        Checks.fill(desk, left, rows, columns, a);
        Checks.fill(desk, right, rows, columns, b);
        String call = rows + " by " + columns + ", convolve(" + target + ", " + left + ", " + right + ", " + kind + ")";
        Checks.due(call, desk.convolve(target, left, right, kind), true);
        Checks.dueTable(call, desk, target, rows, columns, convolved(a, b, rows, columns, kind));
        Checks.dueTable(call, desk, left, rows, columns, a);
        Checks.dueTable(call, desk, right, rows, columns, b);
    }

    private static void testEveryShape() {
        for (int rows = 1; rows <= 16; rows++) {
            for (int columns = 1; columns <= 16; columns++) {
                for (int kind = 0; kind <= 2 && Checks.isShape(rows, columns); kind++) {
                    int n = rows * columns;
                    int seed = rows * 50 + columns;
                    testTables(Reference.series(seed, n), Reference.series(-seed, n), rows, columns, kind);
                    int[] greatest = Reference.repeated(Checks.P - 1, n);
                    testTables(greatest, greatest, rows, columns, kind);
                }
            }
        }
    }

    private static void testByHand() {
        ExactTransformDesk desk = Checks.used();
        Checks.fill(desk, 0, 1, 3, 1, 10, 100);
        Checks.fill(desk, 1, 1, 3, 2, 3, 5);
        desk.convolve(2, 0, 1, 0);
        Checks.dueTable("kind 0", desk, 2, 1, 3, 352, 523, 235);
        desk.convolve(2, 0, 1, 1);
        Checks.dueTable("kind 1", desk, 2, 1, 3, 532, 253, 325);
        desk.convolve(2, 0, 1, 2);
        Checks.dueTable("kind 2", desk, 2, 1, 3, Checks.P - 348, Checks.P - 477, 235);
    }

    /** Kind 2 takes the sign from the columns alone, however the rows wrap around. */
    private static void testKindTwoDownOneColumn() {
        ExactTransformDesk desk = Checks.used();
        Checks.fill(desk, 0, 3, 1, 1, 10, 100);
        Checks.fill(desk, 1, 3, 1, 2, 3, 5);
        desk.convolve(2, 0, 1, 2);
        Checks.dueTable("kind 2 in a column", desk, 2, 3, 1, 352, 523, 235);
    }

    private static void testTargetIsSource() {
        int[] a = Reference.series(61, 12);
        int[] b = Reference.series(62, 12);
        for (int kind = 0; kind <= 2; kind++) {
            ExactTransformDesk desk = Checks.used();
            Checks.fill(desk, 0, 3, 4, a);
            Checks.fill(desk, 1, 3, 4, b);
            Checks.due("convolve(0, 0, 1, " + kind + ")", desk.convolve(0, 0, 1, kind), true);
            Checks.dueTable("c is a, kind " + kind, desk, 0, 3, 4, convolved(a, b, 3, 4, kind));
            Checks.dueTable("c is a, kind " + kind, desk, 1, 3, 4, b);
            Checks.fill(desk, 0, 3, 4, a);
            Checks.due("convolve(1, 0, 1, " + kind + ")", desk.convolve(1, 0, 1, kind), true);
            Checks.dueTable("c is b, kind " + kind, desk, 1, 3, 4, convolved(a, b, 3, 4, kind));
            Checks.due("convolve(0, 0, 0, " + kind + ")", desk.convolve(0, 0, 0, kind), true);
            Checks.dueTable("all the same, kind " + kind, desk, 0, 3, 4, convolved(a, a, 3, 4, kind));
        }
    }

    private static void testRefusals() {
        for (int v : Checks.NO_TABLES) {
            Checks.refused("convolve(" + v + ", 0, 1, 0)", Checks.furnished(), d -> d.convolve(v, 0, 1, 0));
            Checks.refused("convolve(2, " + v + ", 1, 1)", Checks.furnished(), d -> d.convolve(2, v, 1, 1));
            Checks.refused("convolve(2, 0, " + v + ", 2)", Checks.furnished(), d -> d.convolve(2, 0, v, 2));
            Checks.refused("convolve(2, " + v + ", " + v + ", 2)", Checks.furnished(), d -> d.convolve(2, v, v, 2));
        }
        for (int kind : new int[] {-1, 3, 4, Integer.MIN_VALUE, Integer.MAX_VALUE}) {
            Checks.refused("convolve(2, 0, 1, " + kind + ")", Checks.furnished(), d -> d.convolve(2, 0, 1, kind));
        }
        for (int kind = 0; kind <= 2; kind++) {
            int asked = kind;
            Checks.refused("1 by 4 with 2 by 2", Checks.furnished(), d -> d.convolve(0, 0, 2, asked));
            Checks.refused("2 by 2 with 1 by 4", Checks.furnished(), d -> d.convolve(2, 2, 0, asked));
            Checks.refused("1 by 4 with 1 by 3", Checks.furnished(), d -> d.convolve(0, 0, 3, asked));
        }
    }

    public static void main(String[] args) {
        testEveryShape();
        testByHand();
        testKindTwoDownOneColumn();
        testTargetIsSource();
        testRefusals();
        Checks.finish();
    }
}
