import java.util.Arrays;

/** Promise 15: recurrence. */
final class RecurrenceTest {
    private static void testByElimination() {
        for (int[] sequence : Sequences.all()) {
            ExactTransformDesk desk = Checks.deskWithRow(sequence);
            String call = "recurrence of " + Arrays.toString(sequence);
            Checks.due(call, desk.recurrence(0), Reference.leastLength(sequence));
            Checks.dueTable(call, desk, 0, 1, sequence.length, sequence);
        }
    }

    private static void testByHand() {
        Checks.due("all 0", Checks.deskWithRow(0, 0, 0, 0).recurrence(0), 0);
        Checks.due("powers of 3", Checks.deskWithRow(1, 3, 9, 27).recurrence(0), 1);
        Checks.due("5 and then 0", Checks.deskWithRow(5, 0, 0).recurrence(0), 1);
        Checks.due("counting", Checks.deskWithRow(1, 2, 3, 4, 5).recurrence(0), 2);
        Checks.due("squares", Checks.deskWithRow(0, 1, 4, 9, 16, 25, 36).recurrence(0), 3);
        Checks.due("a late start", Checks.deskWithRow(0, 0, 0, 6).recurrence(0), 4);
        Checks.due("a single 0", Checks.deskWithRow(0).recurrence(0), 0);
        Checks.due("a single 8", Checks.deskWithRow(8).recurrence(0), 1);
        int[] last = new int[16];
        last[15] = 1;
        Checks.due("15 times 0, then 1", Checks.deskWithRow(last).recurrence(0), 16);
    }

    /** An earlier search may leave nothing behind that a later one reads. */
    private static void testCallsStandApart() {
        ExactTransformDesk desk = Checks.deskWithRow(Reference.series(3, 16));
        Checks.fill(desk, 1, 1, 5, 1, 2, 4, 8, 16);
        Checks.due("16 spread elements", desk.recurrence(0), Reference.leastLength(Reference.series(3, 16)));
        Checks.due("powers of 2 after that", desk.recurrence(1), 1);
        Checks.due("a new table after that", desk.recurrence(2), 0);
        Checks.due("16 spread elements again", desk.recurrence(0), Reference.leastLength(Reference.series(3, 16)));
    }

    private static void testNone() {
        ExactTransformDesk desk = Checks.furnished();
        String before = Checks.state(desk);
        for (int v : Checks.NO_TABLES) {
            Checks.due("recurrence(" + v + ")", desk.recurrence(v), -1);
        }
        Checks.due("recurrence of 2 by 2", desk.recurrence(2), -1);
        Checks.dueState("recurrence", desk, before);
        desk.shape(1, 16, 1);
        Checks.due("recurrence of one column", desk.recurrence(1), -1);
    }

    public static void main(String[] args) {
        testByElimination();
        testByHand();
        testCallsStandApart();
        testNone();
        Checks.finish();
    }
}
