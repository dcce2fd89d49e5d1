import java.math.BigInteger;

/** Arithmetic modulo P by the Java library, and the same fixed series of elements in every run. */
final class Reference {
    private static final BigInteger MODULUS = BigInteger.valueOf(Checks.P);

    private Reference() {
    }

    static int mod(long x) {
        return (int) Math.floorMod(x, (long) Checks.P);
    }

    static int times(long a, long b) {
        return BigInteger.valueOf(a).multiply(BigInteger.valueOf(b)).mod(MODULUS).intValueExact();
    }

    static int power(long base, long exponent) {
        return BigInteger.valueOf(base).modPow(BigInteger.valueOf(exponent), MODULUS).intValueExact();
    }

    static int inverse(long a) {
        return BigInteger.valueOf(a).modInverse(MODULUS).intValueExact();
    }

    /** Elements that are well spread for each seed, the greatest and the least ones among them. */
    static int[] series(int seed, int n) {
        int[] elements = new int[n];
        long x = 88172645463325252L + 7919L * seed;
        for (int i = 0; i < n; i++) {
            x = next(x);
            int choice = (int) Math.floorMod(x >> 40, 9L);
            elements[i] = choice == 0 ? 0 : choice == 1 ? Checks.P - 1 : mod(x >> 3);
        }
        return elements;
    }

    /** The number after x in a fixed, well mixed order of all longs but 0. */
    static long next(long x) {
        long mixed = x ^ x << 13;
        mixed ^= mixed >>> 7;
        return mixed ^ mixed << 17;
    }
}
