import java.util.function.ToIntBiFunction;
import java.util.function.ToIntFunction;

/** The edges of calls that answer a number about a table of one row. */
final class RowEdges {
    private final String name;
    private final ToIntBiFunction<ExactTransformDesk, Integer> call;
    private final ToIntFunction<Table> answer;

    RowEdges(String name, ToIntBiFunction<ExactTransformDesk, Integer> call, ToIntFunction<Table> answer) {
        this.name = name;
        this.call = call;
        this.answer = answer;
    }

    /** "-1 if v is outside 0..3", and its answer in every table inside. */
    void tables() {
        for (int n : new int[] {1, 2, 15, 16}) {
            Tables tables = Tables.alike(1, n);
            for (int v : Checks.NO_TABLES) {
                answers(tables, v, -1);
            }
            for (int v = 0; v < 4; v++) {
                answers(tables, v, answer.applyAsInt(tables.get(v)));
            }
        }
    }

    /** "-1 if v .. has more than one row": also if all elements are 0, or there is one column. */
    void moreRows() {
        for (int[] shape : Checks.EDGE_SHAPES) {
            Table zeros = Table.filled(0, shape[0], shape[1]);
            Tables tables = Tables.alike(shape[0], shape[1]).with(1, zeros);
            for (int v = 0; v < 4; v++) {
                answers(tables, v, shape[0] > 1 ? -1 : answer.applyAsInt(tables.get(v)));
            }
        }
    }

    /** The answer in a table that once had more rows or columns is that of what it has now. */
    void smallerNow() {
        for (int n : new int[] {1, 2, 3, 16}) {
            ExactTransformDesk desk = Tables.alike(3, 16).desk();
            desk.shape(2, 1, n);
            int ofZeros = answer.applyAsInt(Table.filled(0, 1, n));
            Checks.due(name + " of " + n + " times 0, once 3 by 16", call.applyAsInt(desk, 2), ofZeros);
            desk.put(2, 0, 6);
            int ofSix = answer.applyAsInt(Table.single(1, n, 0, 6));
            Checks.due(name + " of 6 and then 0, once 3 by 16", call.applyAsInt(desk, 2), ofSix);
        }
    }

    void of(Table table) {
        answers(Tables.fresh().with(0, table), 0, answer.applyAsInt(table));
    }

    void due(int want, int... row) {
        answers(Tables.row(row), 0, want);
    }

    /** Long and short recurrences, and all short rows of a few elements. */
    void sequences() {
        for (Table sequence : Sequences.all()) {
            of(sequence);
        }
    }

    void answers(Tables tables, int v, int want) {
        tables.answers(name + " of table " + v + ", " + tables.get(Math.floorMod(v, 4)), d -> call.applyAsInt(d, v), want);
    }
}
