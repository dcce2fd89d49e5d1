import java.util.ArrayList;
import java.util.List;

/** What all tests share: comparing answers, the exit code, and the values at which arguments are tried. */
final class Checks {
    static final int P = 1014773761;
    static final int G = 17;
    static final int LEAST = Integer.MIN_VALUE;
    static final int GREATEST = Integer.MAX_VALUE;

    /** The first numbers outside 0..3 on either side, then ones further off. */
    static final int[] NO_TABLES = {-1, 4, 5, 48, LEAST, GREATEST};

    /** Where an argument may be any int: both ends, and both sides of every multiple of P and of P - 1. */
    static final int[] ANY_INTS = {
        0, 1, -1, 2, -2, 15, 16, 17, -15, -16, -17, P - 2, P - 1, P, P + 1, 2 - P, 1 - P, -P, -P - 1, 2 * P - 3,
        2 * P - 2, 2 * P - 1, 2 * P, 2 * P + 1, 2 - 2 * P, -2 * P - 1, -2 * P, 1 - 2 * P, GREATEST, GREATEST - 1,
        LEAST, LEAST + 1
    };

    /** The smallest and the largest shapes, with those next to them. */
    static final int[][] EDGE_SHAPES = {
        {1, 1}, {1, 2}, {2, 1}, {2, 2}, {1, 15}, {15, 1}, {1, 16}, {16, 1}, {2, 16}, {16, 2}, {3, 15}, {15, 3},
        {3, 16}, {16, 3}, {4, 12}, {12, 4}, {6, 8}, {8, 6}, {5, 9}, {9, 5}
    };

    private static int wrong = 0;

    private Checks() {
    }

    static void due(String call, long got, long want) {
        if (got != want) {
            wrong++;
            System.out.println(call + " answered " + got + ", due is " + want);
        }
    }

    static void due(String call, boolean got, boolean want) {
        if (got != want) {
            wrong++;
            System.out.println(call + " answered " + got + ", due is " + want);
        }
    }

    static boolean isShape(int rows, int columns) {
        return rows >= 1 && rows <= 16 && columns >= 1 && columns <= 16 && rows * columns <= 48;
    }

    static List<int[]> everyShape() {
        List<int[]> shapes = new ArrayList<>();
        for (int rows = 1; rows <= 16; rows++) {
            for (int columns = 1; columns <= 16; columns++) {
                if (isShape(rows, columns)) {
                    shapes.add(new int[] {rows, columns});
                }
            }
        }
        return shapes;
    }

    static void finish() {
        System.out.println(wrong == 0 ? "all answers are as due" : wrong + " answers are not as due");
        if (wrong != 0) {
            System.exit(1);
        }
    }
}
