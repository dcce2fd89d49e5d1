import java.util.Arrays;
import java.util.function.Predicate;

/** What all tests share: desks with known contents, comparing answers, and the exit code. */
final class Checks {
    static final int P = 1014773761;
    static final int G = 17;
    static final int[] NO_TABLES = {-1, 4, 5, 48, Integer.MIN_VALUE, Integer.MAX_VALUE};
    static final int[] EDGE_INTS = {
        0, 1, -1, 2, -2, 16, -17, P - 2, P - 1, P, P + 1, -P + 1, -P, -P - 1, 2 * P - 1, 2 * P,
        -2 * P, Integer.MAX_VALUE, Integer.MAX_VALUE - 1, Integer.MIN_VALUE, Integer.MIN_VALUE + 1
    };

    private static int wrong = 0;

    private Checks() {
    }

    static void due(String call, long got, long want) {
        if (got != want) {
            wrong++;
            System.out.println(call + " answered " + got + ", due is " + want);
        }
    }

    static void due(String call, boolean got, boolean want) {
        if (got != want) {
            wrong++;
            System.out.println(call + " answered " + got + ", due is " + want);
        }
    }

    static void dueTable(String call, ExactTransformDesk desk, int v, int rows, int columns, int... want) {
        due(call + ": size(" + v + ")", desk.size(v), rows * 32L + columns);
        for (int i = 0; i < rows * columns; i++) {
            due(call + ": at(" + v + ", " + i + ")", desk.at(v, i), want[i]);
        }
        due(call + ": at(" + v + ", " + rows * columns + ")", desk.at(v, rows * columns), -1);
    }

    /** The call must answer false and leave every table as it was. */
    static void refused(String call, ExactTransformDesk desk, Predicate<ExactTransformDesk> made) {
        String before = state(desk);
        due(call, made.test(desk), false);
        dueState(call, desk, before);
    }

    static void dueState(String call, ExactTransformDesk desk, String want) {
        String got = state(desk);
        if (!got.equals(want)) {
            wrong++;
            System.out.println(call + " left " + got + ", due is " + want);
        }
    }

    static String state(ExactTransformDesk desk) {
        StringBuilder text = new StringBuilder();
        for (int v = 0; v < 4; v++) {
            int size = desk.size(v);
            text.append(size).append(Arrays.toString(read(desk, v))).append(' ');
        }
        return text.toString();
    }

    static int[] read(ExactTransformDesk desk, int v) {
        int size = desk.size(v);
        boolean sound = isShape(size / 32, size % 32);
        due("size(" + v + ") is that of a table", sound, true);
        int[] elements = new int[sound ? (size / 32) * (size % 32) : 0];
        for (int i = 0; i < elements.length; i++) {
            elements[i] = desk.at(v, i);
        }
        return elements;
    }

    static void fill(ExactTransformDesk desk, int v, int rows, int columns, int... elements) {
        due("shape(" + v + ", " + rows + ", " + columns + ")", desk.shape(v, rows, columns), true);
        for (int i = 0; i < rows * columns; i++) {
            due("put(" + v + ", " + i + ", " + elements[i] + ")", desk.put(v, i, elements[i]), true);
        }
    }

    /** As new, but after one call of every kind, so that what such a call leaves behind inside would show. */
    static ExactTransformDesk used() {
        ExactTransformDesk desk = new ExactTransformDesk();
        fill(desk, 0, 1, 16, Reference.series(99, 16));
        fill(desk, 1, 1, 16, 16, 15, 14, 13, 12, 11, 10, 9, 8, 7, 6, 5, 4, 3, 2, 1);
        desk.interpolate(2, 1, 0);
        desk.reciprocal(2, 1);
        desk.chirp(2, 0, 3, 4);
        desk.convolve(2, 0, 1, 2);
        desk.rotate(2, 5);
        desk.add(3, 0, 1, 9);
        desk.evaluate(0, 6);
        desk.recurrence(1);
        desk.predict(0);
        desk.shape(3, 3, 16);
        desk.put(3, 0, 5);
        desk.transform(3, 2, false);
        desk.multiply(2, 3, 3);
        for (int v = 0; v < 4; v++) {
            desk.shape(v, 1, 1);
        }
        return desk;
    }

    static ExactTransformDesk deskWithRow(int... elements) {
        ExactTransformDesk desk = used();
        fill(desk, 0, 1, elements.length, elements);
        return desk;
    }

    /** Rows of 4 in tables 0 and 1, of which 1 starts with 0 and has a repeat; 2 by 2 in table 2; a row of 3 in table 3. */
    static ExactTransformDesk furnished() {
        ExactTransformDesk desk = used();
        fill(desk, 0, 1, 4, 5, 7, 11, P - 1);
        fill(desk, 1, 1, 4, 0, 8, 3, 8);
        fill(desk, 2, 2, 2, 21, 22, 23, 24);
        fill(desk, 3, 1, 3, 31, 32, 33);
        return desk;
    }

    static boolean isShape(int rows, int columns) {
        return rows >= 1 && rows <= 16 && columns >= 1 && columns <= 16 && rows * columns <= 48;
    }

    static void finish() {
        System.out.println(wrong == 0 ? "all answers are as due" : wrong + " answers are not as due");
        if (wrong != 0) {
            System.exit(1);
        }
    }
}
