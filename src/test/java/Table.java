import java.util.Arrays;

/** One table: its shape and its elements, row after row. */
record Table(int rows, int columns, int... elements) {
    static Table row(int... elements) {
        return new Table(1, elements.length, elements);
    }

    static Table filled(int element, int rows, int columns) {
        int[] elements = new int[rows * columns];
        Arrays.fill(elements, element);
        return new Table(rows, columns, elements);
    }

    /** Spread elements with the least and the greatest one among them, so there are repeats. */
    static Table spread(int seed, int rows, int columns) {
        return new Table(rows, columns, Reference.series(seed, rows * columns));
    }

    /** Elements in equal steps modulo P, which are all different unless the step is 0. */
    static Table steps(long first, long step, int rows, int columns) {
        int[] elements = new int[rows * columns];
        for (int i = 0; i < elements.length; i++) {
            elements[i] = Reference.mod(first + i * step);
        }
        return new Table(rows, columns, elements);
    }

    /** All 0 but for one element. */
    static Table single(int rows, int columns, int place, int element) {
        return filled(0, rows, columns).with(place, element);
    }

    Table with(int place, int element) {
        int[] changed = elements.clone();
        changed[place] = element;
        return new Table(rows, columns, changed);
    }

    int at(int row, int column) {
        return elements[row * columns + column];
    }

    int count() {
        return elements.length;
    }

    boolean hasShapeOf(Table other) {
        return rows == other.rows && columns == other.columns;
    }

    @Override
    public String toString() {
        return rows + " by " + columns + " " + Arrays.toString(elements);
    }
}
