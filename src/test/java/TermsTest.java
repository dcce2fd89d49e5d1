/** "Terms": what the document says of numbers and tables ahead of its promises. */
final class TermsTest {
    /** "modulo the prime P". */
    private static void testPrime() {
        for (int d = 2; (long) d * d <= ExactTransformDesk.P; d++) {
            Checks.due(d + " divides P", ExactTransformDesk.P % d == 0, false);
        }
    }

    /** c[0] of the row 0, 1 is the power itself. */
    private static int powerOfG(int exponent) {
        ExactTransformDesk desk = Tables.row(0, 1).desk();
        desk.chirp(1, 0, exponent, 0);
        return desk.at(1, 0);
    }

    /**
     * "G = 17 has the powers G^0, G^1, .. G^(P-2) all different": it has if the (P-1)-th power is 1
     * and no power is whose exponent is P-1 divided by one of its primes.
     */
    private static void testPowersDiffer() {
        int left = Checks.P - 1;
        for (int prime = 2; left > 1; prime++) {
            if (left % prime == 0) {
                int exponent = (Checks.P - 1) / prime;
                Checks.due("G^" + exponent + " is 1", powerOfG(exponent) == 1, false);
            }
            while (left % prime == 0) {
                left /= prime;
            }
        }
        Checks.due("G^0", powerOfG(0), 1);
        Checks.due("G^1", powerOfG(1), 17);
        Checks.due("G^(P-1)", powerOfG(Checks.P - 1), 1);
        Checks.due("G^(P-2) * G", Reference.times(powerOfG(Checks.P - 2), 17), 1);
    }

    /** "a / b is the element c with c * b = a (b not 0)": 1 / b as the lead of a reciprocal, a / b as a slope. */
    private static void testDivision() {
        int[] elements = {1, 2, 3, 16, 17, Checks.P / 2, Checks.P / 2 + 1, Checks.P - 2, Checks.P - 1, 123456789};
        for (int b : elements) {
            ExactTransformDesk desk = Tables.row(b).desk();
            desk.reciprocal(1, 0);
            Checks.due("1 / " + b + " times " + b, Reference.times(desk.at(1, 0), b), 1);
            for (int a : elements) {
                desk = Tables.row(0, b).with(1, Table.row(0, a)).desk();
                desk.interpolate(2, 0, 1);
                Checks.due(a + " / " + b + " times " + b, Reference.times(desk.at(2, 1), b), a);
            }
        }
    }

    /**
     * "Element i lies in row i / columns and column i % columns"; "LINES of a table are its rows (axis 0),
     * or its columns (axis 1)": a 1 at the start of a line becomes a line of 1 and stays within it.
     */
    private static void testPlaces(int rows, int columns) {
        for (int i = 0; i < rows; i++) {
            Table along = Table.filled(0, rows, columns);
            for (int j = 0; j < columns; j++) {
                along.elements()[i * columns + j] = 1;
            }
            becomes(rows, columns, i * columns, 0, along);
        }
        for (int j = 0; j < columns; j++) {
            Table down = Table.filled(0, rows, columns);
            for (int i = 0; i < rows; i++) {
                down.elements()[i * columns + j] = 1;
            }
            becomes(rows, columns, j, 1, down);
        }
    }

    private static void becomes(int rows, int columns, int place, int axis, Table after) {
        Tables before = Tables.furnished().with(0, Table.single(rows, columns, place, 1));
        String call = rows + " by " + columns + " with a 1 at " + place + ", axis " + axis;
        before.taken(call, d -> d.transform(0, axis, false), before.with(0, after));
    }

    /** "A table with one row is also a polynomial (element i the coefficient of x^i)". */
    private static void testCoefficients() {
        for (int i = 0; i < 16; i++) {
            ExactTransformDesk desk = Tables.fresh().with(0, Table.single(1, 16, i, 1)).desk();
            Checks.due("x^" + i + " at 2", desk.evaluate(0, 2), 1 << i);
            Checks.due("x^" + i + " at -1", desk.evaluate(0, -1), i % 2 == 0 ? 1 : Checks.P - 1);
        }
    }

    public static void main(String[] args) {
        testPrime();
        testPowersDiffer();
        testDivision();
        for (int[] shape : Checks.everyShape()) {
            testPlaces(shape[0], shape[1]);
        }
        testCoefficients();
        Checks.finish();
    }
}
