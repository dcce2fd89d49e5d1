/** "An object is used for at most 512 calls": runs of just so many mixed calls, with every answer compared. */
final class LifeTest {
    private static final int CALLS = 512;
    private static final int KINDS = 15;
    private static final int PUT = 1;

    private final ExactTransformDesk desk = new ExactTransformDesk();
    private final Model model = new Model();
    private final StringBuilder story = new StringBuilder();
    private long mixed;
    private int made = 0;

    private LifeTest(long seed) {
        mixed = 1 + seed * 0x9E3779B97F4A7C15L;
        for (int i = 0; i < 20; i++) {
            below(2);
        }
    }

    /** Half of the calls are puts, because the other ones soon leave tables with nothing but 0. */
    private void mix(int calls) {
        while (made < calls) {
            call(below(2) == 0 ? PUT : below(KINDS));
        }
    }

    private int below(int bound) {
        mixed = Reference.next(mixed);
        return (int) Math.floorMod(mixed >> 20, (long) bound);
    }

    private int table() {
        return below(20) == 0 ? Checks.NO_TABLES[below(Checks.NO_TABLES.length)] : below(4);
    }

    private int anyInt() {
        return switch (below(4)) {
            case 0 -> Checks.ANY_INTS[below(Checks.ANY_INTS.length)];
            case 1 -> (int) (mixed >> 9);
            default -> below(9) - 4;
        };
    }

    private int choice() {
        return below(15) == 0 ? anyInt() : below(3);
    }

    /** A wrong answer is told with all calls since the last one that was told. */
    private void due(String call, int got, int want) {
        made++;
        story.append(call).append("; ");
        if (got != want) {
            Checks.due("call " + made + " of a run, " + story, got, want);
            story.setLength(0);
        }
    }

    private void due(String call, boolean got, boolean want) {
        due(call, got ? 1 : 0, want ? 1 : 0);
    }

    private void call(int kind) {
        switch (kind) {
            case 0 -> shape(table());
            case PUT -> put(table());
            case 2 -> at(table());
            case 3 -> size(table());
            case 4 -> transform(table(), choice(), below(2) == 0);
            case 5 -> convolve(table(), table(), table(), choice());
            case 6 -> chirp(table(), table(), anyInt(), anyInt());
            case 7 -> add(table(), table(), table(), anyInt());
            case 8 -> multiply(table(), table(), table());
            case 9 -> rotate(table(), anyInt());
            case 10 -> reciprocal(table(), table());
            case 11 -> interpolate(table(), table(), table());
            case 12 -> evaluate(table(), anyInt());
            case 13 -> recurrence(table());
            default -> predict(table());
        }
    }

    private int side() {
        return below(10) == 0 ? anyInt() : 1 + below(17);
    }

    /** Rows and few shapes more often than not, so that tables often go together. */
    private void shape(int v) {
        int rows = below(4) > 0 ? 1 : side();
        int columns = below(4) > 0 ? 4 + below(2) : side();
        due("shape(" + v + ", " + rows + ", " + columns + ")", desk.shape(v, rows, columns), model.shape(v, rows, columns));
    }

    /** Mostly one of table v's elements or the first number after them. */
    private int number(int v) {
        int size = Math.max(0, model.size(v));
        return below(20) == 0 ? anyInt() : below(size / 32 * (size % 32) + 1);
    }

    private void put(int v) {
        int i = number(v);
        int x = anyInt();
        due("put(" + v + ", " + i + ", " + x + ")", desk.put(v, i, x), model.put(v, i, x));
    }

    private void at(int v) {
        at(v, number(v));
    }

    private void at(int v, int i) {
        due("at(" + v + ", " + i + ")", desk.at(v, i), model.at(v, i));
    }

    private void size(int v) {
        due("size(" + v + ")", desk.size(v), model.size(v));
    }

    private void transform(int v, int axis, boolean back) {
        due("transform(" + v + ", " + axis + ", " + back + ")", desk.transform(v, axis, back), model.transform(v, axis, back));
    }

    private void convolve(int c, int a, int b, int kind) {
        String call = "convolve(" + c + ", " + a + ", " + b + ", " + kind + ")";
        due(call, desk.convolve(c, a, b, kind), model.convolve(c, a, b, kind));
    }

    private void chirp(int c, int a, int start, int step) {
        String call = "chirp(" + c + ", " + a + ", " + start + ", " + step + ")";
        due(call, desk.chirp(c, a, start, step), model.chirp(c, a, start, step));
    }

    private void add(int c, int a, int b, int factor) {
        String call = "add(" + c + ", " + a + ", " + b + ", " + factor + ")";
        due(call, desk.add(c, a, b, factor), model.add(c, a, b, factor));
    }

    private void multiply(int c, int a, int b) {
        due("multiply(" + c + ", " + a + ", " + b + ")", desk.multiply(c, a, b), model.multiply(c, a, b));
    }

    private void rotate(int v, int by) {
        due("rotate(" + v + ", " + by + ")", desk.rotate(v, by), model.rotate(v, by));
    }

    private void reciprocal(int c, int a) {
        due("reciprocal(" + c + ", " + a + ")", desk.reciprocal(c, a), model.reciprocal(c, a));
    }

    private void interpolate(int c, int a, int b) {
        due("interpolate(" + c + ", " + a + ", " + b + ")", desk.interpolate(c, a, b), model.interpolate(c, a, b));
    }

    private void evaluate(int v, int x) {
        due("evaluate(" + v + ", " + x + ")", desk.evaluate(v, x), model.evaluate(v, x));
    }

    private void recurrence(int v) {
        due("recurrence(" + v + ")", desk.recurrence(v), model.recurrence(v));
    }

    private void predict(int v) {
        due("predict(" + v + ")", desk.predict(v), model.predict(v));
    }

    /** Mixed calls, and with the last ones all that the tables hold is looked at. */
    private void mixThenLook() {
        mix(CALLS - 4 * 50);
        for (int v = 0; v < 4; v++) {
            size(v);
            for (int i = 0; i < 49; i++) {
                at(v, i);
            }
        }
        Checks.due("calls of the run", made, CALLS);
    }

    /** Mixed calls, of which the last one is of the kind that is named. */
    private void mixThenCall(int kind) {
        mix(CALLS - 1);
        call(kind);
        Checks.due("calls of the run", made, CALLS);
    }

    public static void main(String[] args) {
        for (int run = 0; run < 20 * KINDS; run++) {
            new LifeTest(run).mixThenLook();
            new LifeTest(-1 - run).mixThenCall(run % KINDS);
        }
        Checks.finish();
    }
}
