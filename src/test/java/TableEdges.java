import java.util.Arrays;
import java.util.function.BinaryOperator;

/**
 * The edges of table numbers, shapes and targets, for one kind of call. Of a call's table numbers the
 * first one is the target; the others are its sources, or the target itself where there are none.
 */
final class TableEdges {
    interface Call {
        boolean made(ExactTransformDesk desk, int[] numbers);
    }

    private static final int[][] SHAPES_THAT_DIFFER = {
        {1, 1, 1, 2}, {1, 1, 2, 1}, {1, 2, 2, 1}, {1, 4, 2, 2}, {2, 3, 2, 4}, {2, 3, 3, 3}, {2, 3, 3, 2},
        {1, 15, 1, 16}, {15, 1, 16, 1}, {1, 16, 16, 1}, {1, 16, 2, 16}, {3, 15, 3, 16}, {2, 16, 3, 16},
        {15, 3, 16, 3}, {16, 2, 16, 3}, {3, 16, 16, 3}, {6, 8, 4, 12}, {6, 8, 8, 6}
    };

    private final String name;
    private final int count;
    private final Call call;
    private final BinaryOperator<Table> result;

    /** The result is what the target becomes, from the sources (one source is given twice). */
    TableEdges(String name, int count, Call call, BinaryOperator<Table> result) {
        this.name = name;
        this.count = count;
        this.call = call;
        this.result = result;
    }

    /** "False .. if v (a number) is outside 0..3": each number by itself, then all of them. */
    void outside(Tables before) {
        for (int v : Checks.NO_TABLES) {
            for (int place = 0; place < count; place++) {
                int[] numbers = usual();
                numbers[place] = v;
                refused(before, numbers);
            }
            int[] numbers = usual();
            Arrays.fill(numbers, v);
            refused(before, numbers);
        }
    }

    /** Every number inside 0..3 for target and sources; "c may be the same table as a or b". */
    void inside(Tables before) {
        for (int code = 0; code < 1 << 2 * count; code++) {
            int[] numbers = new int[count];
            for (int place = 0; place < count; place++) {
                numbers[place] = code >> 2 * place & 3;
            }
            taken(before, numbers);
        }
    }

    /** The smallest and the largest shapes. */
    void shapes() {
        for (int[] shape : Checks.EDGE_SHAPES) {
            taken(Tables.alike(shape[0], shape[1]), usual());
        }
    }

    /** "Calls that give a table c its contents give it also the shape named", whatever shape c had. */
    void oldShapes(Tables before) {
        for (int[] shape : Checks.EDGE_SHAPES) {
            taken(before.with(2, Table.spread(3, shape[0], shape[1])), usual());
        }
    }

    /** "False .. if .. the shapes differ": by one row, by one column, the sides exchanged, as many elements in other rows. */
    void shapesThatDiffer() {
        for (int[] pair : SHAPES_THAT_DIFFER) {
            Table one = Table.steps(3, 5, pair[0], pair[1]);
            Table other = Table.steps(4, 7, pair[2], pair[3]);
            Tables before = Tables.fresh().with(0, one).with(1, other).with(2, one).with(3, other);
            for (int c = 0; c < 4; c++) {
                refused(before, c, 0, 1);
                refused(before, c, 1, 0);
            }
        }
    }

    /** Refused where a has more than one row. */
    void moreRows() {
        for (int[] shape : Checks.EDGE_SHAPES) {
            if (shape[0] > 1) {
                Tables before = Tables.alike(shape[0], shape[1]);
                refused(before, usual());
                int[] same = new int[count];
                refused(before, same);
            }
        }
    }

    void refused(Tables before, int... numbers) {
        before.refused(name + " of tables " + Arrays.toString(numbers), d -> call.made(d, numbers));
    }

    void taken(Tables before, int... numbers) {
        Table a = before.get(numbers[Math.min(1, count - 1)]);
        Table b = before.get(numbers[count - 1]);
        String text = name + " of tables " + Arrays.toString(numbers) + ", " + a + ", " + b;
        before.taken(text, d -> call.made(d, numbers), before.with(numbers[0], result.apply(a, b)));
    }

    private int[] usual() {
        return Arrays.copyOf(new int[] {2, 0, 1}, count);
    }
}
