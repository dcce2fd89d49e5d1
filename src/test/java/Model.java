/** The document's object over Definitions: what a desk must answer to any run of calls. */
final class Model {
    private Tables tables = Tables.fresh();

    boolean shape(int v, int rows, int columns) {
        return isTable(v) && Checks.isShape(rows, columns) && becomes(v, Table.filled(0, rows, columns));
    }

    boolean put(int v, int i, int x) {
        return at(v, i) >= 0 && becomes(v, tables.get(v).with(i, Reference.mod(x)));
    }

    int at(int v, int i) {
        return isTable(v) && i >= 0 && i < tables.get(v).count() ? tables.get(v).elements()[i] : -1;
    }

    int size(int v) {
        return isTable(v) ? tables.get(v).rows() * 32 + tables.get(v).columns() : -1;
    }

    boolean transform(int v, int axis, boolean back) {
        return isTable(v) && axis >= 0 && axis <= 2 && becomes(v, Definitions.transformed(tables.get(v), axis, back));
    }

    boolean convolve(int c, int a, int b, int kind) {
        return isTable(c) && areAlike(a, b) && kind >= 0 && kind <= 2
            && becomes(c, Definitions.convolved(tables.get(a), tables.get(b), kind));
    }

    boolean chirp(int c, int a, int start, int step) {
        return isTable(c) && isRow(a) && becomes(c, Definitions.chirped(tables.get(a), start, step));
    }

    boolean add(int c, int a, int b, int factor) {
        return isTable(c) && areAlike(a, b) && becomes(c, Definitions.added(tables.get(a), tables.get(b), factor));
    }

    boolean multiply(int c, int a, int b) {
        return isTable(c) && areAlike(a, b) && becomes(c, Definitions.multiplied(tables.get(a), tables.get(b)));
    }

    boolean rotate(int v, int by) {
        return isTable(v) && becomes(v, Definitions.rotated(tables.get(v), by));
    }

    boolean reciprocal(int c, int a) {
        return isTable(c) && isRow(a) && at(a, 0) != 0 && becomes(c, Definitions.reciprocal(tables.get(a)));
    }

    boolean interpolate(int c, int a, int b) {
        return isTable(c) && isRow(a) && areAlike(a, b) && allDiffer(tables.get(a))
            && becomes(c, Definitions.interpolated(tables.get(a), tables.get(b)));
    }

    int evaluate(int v, int x) {
        return isRow(v) ? Definitions.valueAt(tables.get(v), x) : -1;
    }

    int recurrence(int v) {
        return isRow(v) ? Definitions.leastLength(tables.get(v)) : -1;
    }

    int predict(int v) {
        return isRow(v) ? Definitions.predicted(tables.get(v)) : -1;
    }

    private boolean becomes(int c, Table table) {
        tables = tables.with(c, table);
        return true;
    }

    private static boolean isTable(int v) {
        return v >= 0 && v <= 3;
    }

    private boolean isRow(int v) {
        return isTable(v) && tables.get(v).rows() == 1;
    }

    private boolean areAlike(int a, int b) {
        return isTable(a) && isTable(b) && tables.get(a).hasShapeOf(tables.get(b));
    }

    private static boolean allDiffer(Table table) {
        return java.util.Arrays.stream(table.elements()).distinct().count() == table.count();
    }
}
