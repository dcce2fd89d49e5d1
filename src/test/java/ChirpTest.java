/** Promise 8: chirp. */
final class ChirpTest {
    private static int[] chirped(int[] a, int start, int step) {
        int[] answer = new int[a.length];
        for (int k = 0; k < a.length; k++) {
            long sum = 0;
            for (int j = 0; j < a.length; j++) {
                long exponent = j * (start + (long) k * step);
                sum += Reference.times(a[j], Reference.power(Checks.G, exponent));
            }
            answer[k] = Reference.mod(sum);
        }
        return answer;
    }

    private static void testEveryLength() {
        for (int n = 1; n <= 16; n++) {
            int[] a = Reference.series(n, n);
            for (int start : new int[] {0, 1, -5, Checks.P - 2, Integer.MAX_VALUE}) {
                for (int step : new int[] {0, 1, 7, -1, Integer.MIN_VALUE}) {
                    testRow(a, start, step);
                }
            }
        }
    }

    private static void testEveryStartAndStep() {
        int[] a = {3, Checks.P - 1, 2, 0, 5};
        for (int start : Checks.EDGE_INTS) {
            for (int step : Checks.EDGE_INTS) {
                testRow(a, start, step);
            }
        }
    }

    private static void testRow(int[] a, int start, int step) {
        ExactTransformDesk desk = Checks.used();
        Checks.fill(desk, 1, 1, a.length, a);
        desk.shape(3, 4, 5);
        String call = a.length + " elements, chirp(3, 1, " + start + ", " + step + ")";
        Checks.due(call, desk.chirp(3, 1, start, step), true);
        Checks.dueTable(call, desk, 3, 1, a.length, chirped(a, start, step));
        Checks.dueTable(call, desk, 1, 1, a.length, a);
    }

    private static void testByHand() {
        ExactTransformDesk desk = Checks.deskWithRow(1, 2, 3);
        Checks.due("chirp(0, 0, 0, 1)", desk.chirp(0, 0, 0, 1), true);
        Checks.dueTable("c is a", desk, 0, 1, 3, 6, 1 + 2 * 17 + 3 * 289, 1 + 2 * 289 + 3 * 83521);
        Checks.fill(desk, 0, 1, 2, 0, 1);
        desk.chirp(1, 0, -1, 1);
        Checks.due("17 times the power -1 of G", Reference.times(17, desk.at(1, 0)), 1);
        Checks.due("the power 0 of G", desk.at(1, 1), 1);
    }

    private static void testRefusals() {
        for (int v : Checks.NO_TABLES) {
            Checks.refused("chirp(" + v + ", 0, 1, 1)", Checks.furnished(), d -> d.chirp(v, 0, 1, 1));
            Checks.refused("chirp(0, " + v + ", 1, 1)", Checks.furnished(), d -> d.chirp(0, v, 1, 1));
        }
        Checks.refused("chirp(0, 2, 1, 1)", Checks.furnished(), d -> d.chirp(0, 2, 1, 1));
        Checks.refused("chirp(2, 2, 1, 1)", Checks.furnished(), d -> d.chirp(2, 2, 1, 1));
        ExactTransformDesk desk = Checks.furnished();
        desk.shape(1, 4, 1);
        Checks.refused("chirp of one column", desk, d -> d.chirp(0, 1, 1, 1));
    }

    public static void main(String[] args) {
        testEveryLength();
        testEveryStartAndStep();
        testByHand();
        testRefusals();
        Checks.finish();
    }
}
