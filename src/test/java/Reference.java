import java.math.BigInteger;

/** Arithmetic modulo P by the Java library, and the same fixed series of elements in every run. */
final class Reference {
    private static final BigInteger MODULUS = BigInteger.valueOf(Checks.P);

    private Reference() {
    }

    static int mod(long x) {
        return (int) Math.floorMod(x, (long) Checks.P);
    }

    static int times(long a, long b) {
        return BigInteger.valueOf(a).multiply(BigInteger.valueOf(b)).mod(MODULUS).intValueExact();
    }

    static int power(long base, long exponent) {
        return BigInteger.valueOf(base).modPow(BigInteger.valueOf(exponent), MODULUS).intValueExact();
    }

    static int inverse(long a) {
        return BigInteger.valueOf(a).modInverse(MODULUS).intValueExact();
    }

    static int valueAt(int[] polynomial, int x) {
        long sum = 0;
        for (int i = 0; i < polynomial.length; i++) {
            sum += times(polynomial[i], power(x, i));
        }
        return mod(sum);
    }

    /** Elements that are well spread for each seed, the greatest and the least ones among them. */
    static int[] series(int seed, int n) {
        int[] elements = new int[n];
        long x = 88172645463325252L + 7919L * seed;
        for (int i = 0; i < n; i++) {
            x ^= x << 13;
            x ^= x >>> 7;
            x ^= x << 17;
            int choice = (int) Math.floorMod(x >> 40, 9L);
            elements[i] = choice == 0 ? 0 : choice == 1 ? Checks.P - 1 : mod(x >> 3);
        }
        return elements;
    }

    static int[] repeated(int element, int n) {
        int[] elements = new int[n];
        java.util.Arrays.fill(elements, element);
        return elements;
    }

    /**
     * Factors q1 .. qL that fit the sequence, found by elimination on the equations themselves, or
     * an empty answer (null) where no factors fit.
     */
    static int[] factors(int[] sequence, int length) {
        int equations = sequence.length - length;
        int[][] m = new int[equations][length + 1];
        for (int e = 0; e < equations; e++) {
            for (int j = 1; j <= length; j++) {
                m[e][j - 1] = sequence[length + e - j];
            }
            m[e][length] = sequence[length + e];
        }
        return solved(m, length);
    }

    static int leastLength(int[] sequence) {
        for (int length = 0; length < sequence.length; length++) {
            if (factors(sequence, length) != null) {
                return length;
            }
        }
        return sequence.length;
    }

    private static int[] solved(int[][] m, int unknowns) {
        int[] pivotRow = repeated(-1, unknowns);
        int done = 0;
        for (int column = 0; column < unknowns; column++) {
            int row = done;
            while (row < m.length && m[row][column] == 0) {
                row++;
            }
            if (row == m.length) {
                continue;
            }
            int[] pivot = m[row];
            m[row] = m[done];
            m[done] = pivot;
            scale(pivot, inverse(pivot[column]));
            for (int other = 0; other < m.length; other++) {
                if (other != done) {
                    subtract(m[other], pivot, m[other][column]);
                }
            }
            pivotRow[column] = done++;
        }
        for (int row = done; row < m.length; row++) {
            if (m[row][unknowns] != 0) {
                return null;
            }
        }
        int[] answer = new int[unknowns];
        for (int column = 0; column < unknowns; column++) {
            answer[column] = pivotRow[column] < 0 ? 0 : m[pivotRow[column]][unknowns];
        }
        return answer;
    }

    private static void scale(int[] row, int factor) {
        for (int i = 0; i < row.length; i++) {
            row[i] = times(row[i], factor);
        }
    }

    private static void subtract(int[] row, int[] pivot, int factor) {
        for (int i = 0; i < row.length; i++) {
            row[i] = mod((long) row[i] - times(pivot[i], factor));
        }
    }
}
