public final class ExactTransformDesk {
    public static final int P = 1014773761, G = 17;

    private static final int TABLES = 4;
    private static final int MOST_SIDE = 16;
    private static final int MOST_CELLS = 48;
    private static final int ALL_CELLS = TABLES * MOST_CELLS;
    // A recurrence over 16 elements can need 16 factors beside the leading 1.
    private static final int MOST_TERMS = MOST_SIDE + 1;
    // P is below 2^30, so every exponent that is reduced modulo P - 1 has at most 30 bits.
    private static final int EXPONENT_BITS = 30;

    private final int[] cells = new int[ALL_CELLS];
    private final int[] rows = new int[TABLES];
    private final int[] columns = new int[TABLES];

    // Answers are gathered here first, because the target may be one of the sources.
    private final int[] result = new int[MOST_CELLS];

    private final int[] basis = new int[MOST_SIDE];

    private final int[] current = new int[MOST_TERMS];
    private final int[] older = new int[MOST_TERMS];
    private final int[] saved = new int[MOST_TERMS];

    public ExactTransformDesk() {
        for (int v = 0; v < TABLES; v++) {
            rows[v] = 1;
            columns[v] = 1;
        }
    }

    public boolean shape(int v, int rows, int columns) {
        if (!isTable(v) || !isSide(rows) || !isSide(columns) || rows * columns > MOST_CELLS) {
            return false;
        }
        for (int i = 0; i < rows * columns; i++) {
            result[i] = 0;
        }
        deliver(v, rows, columns);
        return true;
    }

    public boolean put(int v, int i, int x) {
        if (!hasElement(v, i)) {
            return false;
        }
        cells[v * MOST_CELLS + i] = element(x);
        return true;
    }

    public int at(int v, int i) {
        return hasElement(v, i) ? cells[v * MOST_CELLS + i] : -1;
    }

    public int size(int v) {
        return isTable(v) ? rows[v] * 32 + columns[v] : -1;
    }

    public boolean transform(int v, int axis, boolean back) {
        if (!isTable(v) || axis < 0 || axis > 2) {
            return false;
        }
        if (axis != 1) {
            transformRows(v, back);
        }
        if (axis != 0) {
            transformColumns(v, back);
        }
        return true;
    }

    public boolean convolve(int c, int a, int b, int kind) {
        if (!isTable(c) || !haveSameShape(a, b) || kind < 0 || kind > 2) {
            return false;
        }
        for (int k = 0; k < rows[a]; k++) {
            for (int l = 0; l < columns[a]; l++) {
                result[k * columns[a] + l] = convolvedElement(a, b, kind, k, l);
            }
        }
        deliver(c, rows[a], columns[a]);
        return true;
    }

    public boolean chirp(int c, int a, int start, int step) {
        if (!isTable(c) || !isRow(a)) {
            return false;
        }
        int n = columns[a];
        for (int k = 0; k < n; k++) {
            int x = powerOfG(start + (long) k * step);
            result[k] = valueOf(cells, a * MOST_CELLS, 1, n, x);
        }
        deliver(c, 1, n);
        return true;
    }

    public boolean add(int c, int a, int b, int factor) {
        if (!isTable(c) || !haveSameShape(a, b)) {
            return false;
        }
        int scale = element(factor);
        for (int i = 0; i < rows[a] * columns[a]; i++) {
            result[i] = plusProduct(cells[a * MOST_CELLS + i], scale, cells[b * MOST_CELLS + i]);
        }
        deliver(c, rows[a], columns[a]);
        return true;
    }

    public boolean multiply(int c, int a, int b) {
        if (!isTable(c) || !haveSameShape(a, b)) {
            return false;
        }
        for (int i = 0; i < rows[a] * columns[a]; i++) {
            result[i] = product(cells[a * MOST_CELLS + i], cells[b * MOST_CELLS + i]);
        }
        deliver(c, rows[a], columns[a]);
        return true;
    }

    public boolean rotate(int v, int by) {
        if (!isTable(v)) {
            return false;
        }
        int n = columns[v];
        // Reduced first, so that adding a column's number can't wrap around.
        int shift = by % n;
        for (int row = 0; row < rows[v]; row++) {
            for (int j = 0; j < n; j++) {
                int from = wrapped(j + shift, n);
                result[row * n + j] = cells[v * MOST_CELLS + row * n + from];
            }
        }
        deliver(v, rows[v], n);
        return true;
    }

    public boolean reciprocal(int c, int a) {
        if (!isTable(c) || !isRow(a) || cells[a * MOST_CELLS] == 0) {
            return false;
        }
        int n = columns[a];
        int lead = inverse(cells[a * MOST_CELLS]);
        result[0] = lead;
        for (int k = 1; k < n; k++) {
            int sum = 0;
            for (int i = 1; i <= k; i++) {
                sum = plusProduct(sum, cells[a * MOST_CELLS + i], result[k - i]);
            }
            result[k] = product(lead, P - sum);
        }
        deliver(c, 1, n);
        return true;
    }

    public boolean interpolate(int c, int a, int b) {
        if (!isTable(c) || !isRow(a) || !haveSameShape(a, b) || !allDiffer(a)) {
            return false;
        }
        int n = columns[a];
        for (int i = 0; i < n; i++) {
            result[i] = 0;
            basis[i] = 0;
        }
        basis[0] = 1;
        for (int i = 0; i < n; i++) {
            addPoint(n, cells[a * MOST_CELLS + i], cells[b * MOST_CELLS + i]);
        }
        deliver(c, 1, n);
        return true;
    }

    public int evaluate(int v, int x) {
        if (!isRow(v)) {
            return -1;
        }
        int point = element(x);
        return valueOf(cells, v * MOST_CELLS, 1, columns[v], point);
    }

    public int recurrence(int v) {
        return isRow(v) ? shortestRecurrence(v) : -1;
    }

    public int predict(int v) {
        if (!isRow(v)) {
            return -1;
        }
        int length = shortestRecurrence(v);
        if (2 * length > columns[v]) {
            return -1;
        }
        return foretold(v, columns[v], length);
    }

    private static boolean isTable(int v) {
        return v >= 0 && v < TABLES;
    }

    private static boolean isSide(int n) {
        return n >= 1 && n <= MOST_SIDE;
    }

    private boolean isRow(int v) {
        return isTable(v) && rows[v] == 1;
    }

    private boolean hasElement(int v, int i) {
        return isTable(v) && i >= 0 && i < rows[v] * columns[v];
    }

    private boolean haveSameShape(int a, int b) {
        return isTable(a) && isTable(b) && rows[a] == rows[b] && columns[a] == columns[b];
    }

    private boolean allDiffer(int v) {
        for (int i = 1; i < columns[v]; i++) {
            for (int j = 0; j < i; j++) {
                if (cells[v * MOST_CELLS + i] == cells[v * MOST_CELLS + j]) {
                    return false;
                }
            }
        }
        return true;
    }

    private void deliver(int c, int height, int width) {
        rows[c] = height;
        columns[c] = width;
        for (int i = 0; i < height * width; i++) {
            cells[c * MOST_CELLS + i] = result[i];
        }
    }

    private static int element(int x) {
        int rest = x % P;
        return rest < 0 ? rest + P : rest;
    }

    private static int product(int a, int b) {
        return (int) ((long) a * b % P);
    }

    private static int plusProduct(int a, int b, int c) {
        return (int) ((a + (long) b * c) % P);
    }

    private static int difference(int a, int b) {
        return a < b ? a - b + P : a - b;
    }

    private static int power(int base, int exponent) {
        int answer = 1;
        for (int bit = EXPONENT_BITS - 1; bit >= 0; bit--) {
            answer = product(answer, answer);
            if ((exponent >> bit & 1) == 1) {
                answer = product(answer, base);
            }
        }
        return answer;
    }

    private static int powerOfG(long exponent) {
        // The powers of G repeat after P - 1, which also makes negative ones positive.
        int rest = (int) (exponent % (P - 1));
        return power(G, rest < 0 ? rest + P - 1 : rest);
    }

    private static int inverse(int a) {
        return power(a, P - 2);
    }

    // For an index that is at most one length outside 0..n-1.
    private static int wrapped(int index, int n) {
        if (index < 0) {
            return index + n;
        }
        return index >= n ? index - n : index;
    }

    private static int valueOf(int[] from, int first, int stride, int n, int x) {
        int sum = 0;
        for (int i = n - 1; i >= 0; i--) {
            sum = plusProduct(from[first + i * stride], sum, x);
        }
        return sum;
    }

    private void transformRows(int v, boolean back) {
        for (int row = 0; row < rows[v]; row++) {
            transformLine(v * MOST_CELLS + row * columns[v], 1, columns[v], back);
        }
    }

    private void transformColumns(int v, boolean back) {
        for (int column = 0; column < columns[v]; column++) {
            transformLine(v * MOST_CELLS + column, columns[v], rows[v], back);
        }
    }

    // X[k] is the line's value, taken as a polynomial, at the k-th power of the root.
    private void transformLine(int first, int stride, int n, boolean back) {
        int step = (P - 1) / n;
        int root = power(G, back ? P - 1 - step : step);
        int scale = back ? inverse(n) : 1;
        int x = 1;
        for (int k = 0; k < n; k++) {
            int sum = valueOf(cells, first, stride, n, x);
            result[k] = product(sum, scale);
            x = product(x, root);
        }
        for (int k = 0; k < n; k++) {
            cells[first + k * stride] = result[k];
        }
    }

    private int convolvedElement(int a, int b, int kind, int k, int l) {
        int height = rows[a];
        int width = columns[a];
        int sum = 0;
        for (int i = 0; i < height; i++) {
            int row = wrapped(kind == 1 ? k + i : k - i, height);
            for (int j = 0; j < width; j++) {
                int column = wrapped(kind == 1 ? l + j : l - j, width);
                int left = cells[a * MOST_CELLS + i * width + j];
                int right = cells[b * MOST_CELLS + row * width + column];
                sum = plusProduct(sum, left, kind == 2 && l < j ? P - right : right);
            }
        }
        return sum;
    }

    // The basis is zero at every earlier point, so adding a multiple of it leaves their values.
    private void addPoint(int n, int x, int y) {
        int reached = valueOf(result, 0, 1, n, x);
        int basisValue = valueOf(basis, 0, 1, n, x);
        int share = inverse(basisValue);
        int missing = difference(y, reached);
        int factor = product(missing, share);
        for (int i = 0; i < n; i++) {
            result[i] = plusProduct(result[i], factor, basis[i]);
        }
        // Only the last point would need a term x^n, and no point comes after it.
        for (int i = n - 1; i >= 1; i--) {
            basis[i] = plusProduct(basis[i - 1], P - x, basis[i]);
        }
        basis[0] = product(P - x, basis[0]);
    }

    // Berlekamp and Massey: afterwards the factors q are the negatives of current[1], current[2], ..
    private int shortestRecurrence(int v) {
        startRecurrence();
        int length = 0;
        int age = 1;
        int olderMiss = 1;
        for (int i = 0; i < columns[v]; i++) {
            int due = foretold(v, i, length);
            int miss = difference(cells[v * MOST_CELLS + i], due);
            if (miss != 0) {
                int share = inverse(olderMiss);
                int factor = product(miss, share);
                correct(factor, age);
                if (2 * length <= i) {
                    keepSaved();
                    olderMiss = miss;
                    length = i + 1 - length;
                    age = 0;
                }
            }
            age++;
        }
        return length;
    }

    private void startRecurrence() {
        for (int j = 0; j < MOST_TERMS; j++) {
            current[j] = 0;
            older[j] = 0;
        }
        current[0] = 1;
        older[0] = 1;
    }

    // What the current recurrence asks for as element i; length is at most i.
    private int foretold(int v, int i, int length) {
        int sum = 0;
        for (int j = 1; j <= length; j++) {
            sum = plusProduct(sum, P - current[j], cells[v * MOST_CELLS + i - j]);
        }
        return sum;
    }

    private void correct(int factor, int age) {
        for (int j = 0; j < MOST_TERMS; j++) {
            saved[j] = current[j];
        }
        for (int j = age; j < MOST_TERMS; j++) {
            current[j] = plusProduct(current[j], P - factor, older[j - age]);
        }
    }

    private void keepSaved() {
        for (int j = 0; j < MOST_TERMS; j++) {
            older[j] = saved[j];
        }
    }
}
