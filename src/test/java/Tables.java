import java.util.function.Predicate;
import java.util.function.ToIntFunction;

/** The contents of all four tables: desks are made from them, and what a call leaves is compared with them. */
final class Tables {
    private final Table[] tables;

    private Tables(Table... tables) {
        this.tables = tables;
    }

    static Tables fresh() {
        Table single = Table.row(0);
        return new Tables(single, single, single, single);
    }

    /** Rows of 4 in tables 0 and 1, of which 1 starts with 0 and has a repeat; 2 by 2 in table 2; a row of 3 in table 3. */
    static Tables furnished() {
        return new Tables(Table.row(5, 7, 11, Checks.P - 1), Table.row(0, 8, 3, 8), new Table(2, 2, 21, 22, 23, 24),
            Table.row(31, 32, 33));
    }

    /** Four tables of one shape; in each all elements are different and none is 0. */
    static Tables alike(int rows, int columns) {
        Tables made = fresh();
        for (int v = 0; v < 4; v++) {
            made = made.with(v, Table.steps(1 + 31L * v, 389000003L + 1000L * v, rows, columns));
        }
        return made;
    }

    static Tables row(int... elements) {
        return fresh().with(0, Table.row(elements));
    }

    Table get(int v) {
        return tables[v];
    }

    Tables with(int v, Table table) {
        Table[] changed = tables.clone();
        changed[v] = table;
        return new Tables(changed);
    }

    /** A desk with these contents on which every kind of call was made before, so that leftovers inside would show. */
    ExactTransformDesk desk() {
        ExactTransformDesk desk = new ExactTransformDesk();
        use(desk);
        for (int v = 0; v < 4; v++) {
            fill(desk, v, tables[v]);
        }
        // The shapes may have cleared what is used inside: a turn by 0 fills it again and changes no table.
        for (int v = 0; v < 4; v++) {
            desk.rotate(v, 0);
        }
        return desk;
    }

    private static void use(ExactTransformDesk desk) {
        fill(desk, 0, Table.spread(99, 1, 16));
        fill(desk, 1, Table.steps(16, -1, 1, 16));
        desk.interpolate(2, 1, 0);
        desk.reciprocal(2, 1);
        desk.chirp(2, 0, 3, 4);
        desk.convolve(2, 0, 1, 2);
        desk.rotate(2, 5);
        desk.add(3, 0, 1, 9);
        desk.evaluate(0, 6);
        desk.recurrence(1);
        desk.predict(0);
        desk.shape(3, 3, 16);
        desk.put(3, 0, 5);
        desk.transform(3, 2, false);
        desk.multiply(2, 3, 3);
    }

    private static void fill(ExactTransformDesk desk, int v, Table table) {
        Checks.due("shape(" + v + ") to " + table, desk.shape(v, table.rows(), table.columns()), true);
        for (int i = 0; i < table.count(); i++) {
            int x = table.elements()[i];
            Checks.due("put(" + v + ", " + i + ", " + x + ")", desk.put(v, i, x), true);
        }
    }

    /** The call answers true and leaves the tables that are named. */
    void taken(String call, Predicate<ExactTransformDesk> made, Tables after) {
        ExactTransformDesk desk = desk();
        Checks.due(call, made.test(desk), true);
        after.due(call, desk);
    }

    /** The call answers false and changes nothing. */
    void refused(String call, Predicate<ExactTransformDesk> made) {
        ExactTransformDesk desk = desk();
        Checks.due(call, made.test(desk), false);
        due(call, desk);
    }

    /** The call answers the number and changes nothing. */
    void answers(String call, ToIntFunction<ExactTransformDesk> made, int want) {
        ExactTransformDesk desk = desk();
        Checks.due(call, made.applyAsInt(desk), want);
        due(call, desk);
    }

    void due(String call, ExactTransformDesk desk) {
        for (int v = 0; v < 4; v++) {
            Table want = tables[v];
            Checks.due(call + ", then size(" + v + ")", desk.size(v), want.rows() * 32L + want.columns());
            for (int i = 0; i < want.count(); i++) {
                Checks.due(call + ", then at(" + v + ", " + i + ")", desk.at(v, i), want.elements()[i]);
            }
            Checks.due(call + ", then at(" + v + ", " + want.count() + ")", desk.at(v, want.count()), -1);
        }
    }
}
