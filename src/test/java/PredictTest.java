import java.util.Arrays;

/** Promise 16: predict. */
final class PredictTest {
    private static int predicted(int[] sequence) {
        int n = sequence.length;
        int length = Reference.leastLength(sequence);
        if (2 * length > n) {
            return -1;
        }
        int[] factors = Reference.factors(sequence, length);
        long sum = 0;
        for (int j = 1; j <= length; j++) {
            sum += Reference.times(factors[j - 1], sequence[n - j]);
        }
        return Reference.mod(sum);
    }

    private static void testByElimination() {
        for (int[] sequence : Sequences.all()) {
            ExactTransformDesk desk = Checks.deskWithRow(sequence);
            String call = "predict of " + Arrays.toString(sequence);
            Checks.due(call, desk.predict(0), predicted(sequence));
            Checks.dueTable(call, desk, 0, 1, sequence.length, sequence);
        }
    }

    private static void testByHand() {
        Checks.due("powers of 3", Checks.deskWithRow(1, 3, 9, 27).predict(0), 81);
        Checks.due("1 and 3, just enough", Checks.deskWithRow(1, 3).predict(0), 9);
        Checks.due("1 alone, not enough", Checks.deskWithRow(1).predict(0), -1);
        Checks.due("0 alone", Checks.deskWithRow(0).predict(0), 0);
        Checks.due("counting, just enough", Checks.deskWithRow(1, 2, 3, 4).predict(0), 5);
        Checks.due("counting, not enough", Checks.deskWithRow(1, 2, 3).predict(0), -1);
        Checks.due("counting down", Checks.deskWithRow(3, 2, 1, 0).predict(0), Checks.P - 1);
        Checks.due("squares, just enough", Checks.deskWithRow(0, 1, 4, 9, 16, 25).predict(0), 36);
        Checks.due("squares, not enough", Checks.deskWithRow(0, 1, 4, 9, 16).predict(0), -1);
        Checks.due("5 and then 0", Checks.deskWithRow(5, 0, 0).predict(0), 0);
    }

    private static void testCallsStandApart() {
        ExactTransformDesk desk = Checks.deskWithRow(1, 1, 2, 3, 5, 8);
        Checks.fill(desk, 3, 1, 4, 1, 2, 4, 8);
        Checks.due("recurrence(3)", desk.recurrence(3), 1);
        Checks.due("predict(0) after recurrence(3)", desk.predict(0), 13);
        Checks.due("predict(3) after predict(0)", desk.predict(3), 16);
        desk.put(3, 3, 9);
        Checks.due("predict(3) after a put", desk.predict(3), predicted(new int[] {1, 2, 4, 9}));
    }

    private static void testNone() {
        ExactTransformDesk desk = Checks.furnished();
        String before = Checks.state(desk);
        for (int v : Checks.NO_TABLES) {
            Checks.due("predict(" + v + ")", desk.predict(v), -1);
        }
        Checks.due("predict of 2 by 2", desk.predict(2), -1);
        Checks.dueState("predict", desk, before);
        desk.shape(1, 16, 1);
        Checks.due("predict of one column", desk.predict(1), -1);
    }

    public static void main(String[] args) {
        testByElimination();
        testByHand();
        testCallsStandApart();
        testNone();
        Checks.finish();
    }
}
