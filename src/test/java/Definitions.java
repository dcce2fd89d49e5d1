/** What each call gives, by the words of the document and by another way than the program. */
final class Definitions {
    private Definitions() {
    }

    /** The double sum for both axes; a side of length 1 stands for an axis that is left alone. */
    static Table transformed(Table x, int axis, boolean back) {
        Table answer = Table.filled(0, x.rows(), x.columns());
        int along = axis == 1 ? 1 : x.columns();
        int down = axis == 0 ? 1 : x.rows();
        int[] columnWeights = rootPowers(along, back);
        int[] rowWeights = rootPowers(down, back);
        int scale = back ? Reference.inverse((long) along * down) : 1;
        for (int k = 0; k < x.rows(); k++) {
            for (int l = 0; l < x.columns(); l++) {
                long sum = 0;
                for (int i = 0; i < down; i++) {
                    for (int j = 0; j < along; j++) {
                        int from = x.at(axis == 0 ? k : i, axis == 1 ? l : j);
                        int weight = Reference.times(rowWeights[i * k % down], columnWeights[j * l % along]);
                        sum += Reference.times(from, weight);
                    }
                }
                answer.elements()[k * x.columns() + l] = Reference.times(sum, scale);
            }
        }
        return answer;
    }

    private static int[] rootPowers(int n, boolean back) {
        int[] powers = new int[n];
        long step = (Checks.P - 1) / n;
        for (int i = 0; i < n; i++) {
            powers[i] = Reference.power(Checks.G, back ? -step * i : step * i);
        }
        return powers;
    }

    static Table convolved(Table a, Table b, int kind) {
        Table answer = Table.filled(0, a.rows(), a.columns());
        for (int k = 0; k < a.rows(); k++) {
            for (int l = 0; l < a.columns(); l++) {
                long sum = 0;
                for (int i = 0; i < a.rows(); i++) {
                    for (int j = 0; j < a.columns(); j++) {
                        int row = Math.floorMod(kind == 1 ? k + i : k - i, a.rows());
                        int column = Math.floorMod(kind == 1 ? l + j : l - j, a.columns());
                        int term = Reference.times(a.at(i, j), b.at(row, column));
                        sum += kind == 2 && l < j ? -term : term;
                    }
                }
                answer.elements()[k * a.columns() + l] = Reference.mod(sum);
            }
        }
        return answer;
    }

    static Table chirped(Table a, int start, int step) {
        Table answer = Table.filled(0, 1, a.columns());
        for (int k = 0; k < a.columns(); k++) {
            long sum = 0;
            for (int j = 0; j < a.columns(); j++) {
                long exponent = j * (start + (long) k * step);
                sum += Reference.times(a.at(0, j), Reference.power(Checks.G, exponent));
            }
            answer.elements()[k] = Reference.mod(sum);
        }
        return answer;
    }

    static Table added(Table a, Table b, int factor) {
        Table answer = Table.filled(0, a.rows(), a.columns());
        for (int i = 0; i < a.count(); i++) {
            answer.elements()[i] = Reference.mod((long) a.elements()[i] + Reference.times(factor, b.elements()[i]));
        }
        return answer;
    }

    static Table multiplied(Table a, Table b) {
        Table answer = Table.filled(0, a.rows(), a.columns());
        for (int i = 0; i < a.count(); i++) {
            answer.elements()[i] = Reference.times(a.elements()[i], b.elements()[i]);
        }
        return answer;
    }

    static Table rotated(Table x, int by) {
        Table answer = Table.filled(0, x.rows(), x.columns());
        for (int i = 0; i < x.rows(); i++) {
            for (int j = 0; j < x.columns(); j++) {
                answer.elements()[i * x.columns() + j] = x.at(i, Math.floorMod((long) j + by, x.columns()));
            }
        }
        return answer;
    }

    /** From the equations that the coefficients of a * c give; there is just one c. */
    static Table reciprocal(Table a) {
        int n = a.columns();
        int[][] equations = new int[n][n + 1];
        equations[0][n] = 1;
        for (int k = 0; k < n; k++) {
            for (int i = 0; i <= k; i++) {
                equations[k][i] = a.at(0, k - i);
            }
        }
        return Table.row(Elimination.solved(equations, n));
    }

    /** From the equations that the values of c at the elements of a give; there is just one c. */
    static Table interpolated(Table a, Table b) {
        int n = a.columns();
        int[][] equations = new int[n][n + 1];
        for (int i = 0; i < n; i++) {
            for (int j = 0; j < n; j++) {
                equations[i][j] = Reference.power(a.at(0, i), j);
            }
            equations[i][n] = b.at(0, i);
        }
        return Table.row(Elimination.solved(equations, n));
    }

    static int valueAt(Table polynomial, int x) {
        long sum = 0;
        for (int i = 0; i < polynomial.columns(); i++) {
            sum += Reference.times(polynomial.at(0, i), Reference.power(x, i));
        }
        return Reference.mod(sum);
    }

    static int leastLength(Table sequence) {
        for (int length = 0; length < sequence.columns(); length++) {
            if (factors(sequence, length) != null) {
                return length;
            }
        }
        return sequence.columns();
    }

    static int predicted(Table sequence) {
        int n = sequence.columns();
        int length = leastLength(sequence);
        if (2 * length > n) {
            return -1;
        }
        int[] factors = factors(sequence, length);
        long sum = 0;
        for (int j = 1; j <= length; j++) {
            sum += Reference.times(factors[j - 1], sequence.at(0, n - j));
        }
        return Reference.mod(sum);
    }

    /** Factors q1 .. qL that fit the sequence, or null where none do. */
    private static int[] factors(Table sequence, int length) {
        int count = sequence.columns() - length;
        int[][] equations = new int[count][length + 1];
        for (int e = 0; e < count; e++) {
            for (int j = 1; j <= length; j++) {
                equations[e][j - 1] = sequence.at(0, length + e - j);
            }
            equations[e][length] = sequence.at(0, length + e);
        }
        return Elimination.solved(equations, length);
    }
}
