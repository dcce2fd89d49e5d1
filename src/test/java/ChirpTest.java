/** Promise 8: chirp. */
final class ChirpTest {
    private static void testEveryLength() {
        for (int n = 1; n <= 16; n++) {
            Table a = Table.spread(n, 1, n);
            Tables before = Tables.furnished().with(1, a);
            for (int start : new int[] {0, 1, 12, -5}) {
                for (int step : new int[] {0, 1, 7, -1}) {
                    String call = a + ", chirp(2, 1, " + start + ", " + step + ")";
                    before.taken(call, d -> d.chirp(2, 1, start, step), before.with(2, Definitions.chirped(a, start, step)));
                }
            }
        }
    }

    private static void testByHand() {
        Tables before = Tables.row(1, 2, 3);
        before.taken("powers 0, 1, 2", d -> d.chirp(0, 0, 0, 1),
            Tables.row(6, 1 + 2 * 17 + 3 * 289, 1 + 2 * 289 + 3 * 83521));
        before.taken("power 1 each time", d -> d.chirp(0, 0, 1, 0), Tables.row(902, 902, 902));
    }

    public static void main(String[] args) {
        testEveryLength();
        testByHand();
        Checks.finish();
    }
}
