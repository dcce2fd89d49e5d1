import java.util.Arrays;

/** Linear equations modulo P, solved by elimination. */
final class Elimination {
    private Elimination() {
    }

    /** Each row holds the factors of the unknowns and then the sum that is due; null where nothing fits. */
    static int[] solved(int[][] m, int unknowns) {
        int[] pivotRow = new int[unknowns];
        Arrays.fill(pivotRow, -1);
        int done = 0;
        for (int column = 0; column < unknowns; column++) {
            int row = done;
            while (row < m.length && m[row][column] == 0) {
                row++;
            }
            if (row == m.length) {
                continue;
            }
            int[] pivot = m[row];
            m[row] = m[done];
            m[done] = pivot;
            scale(pivot, Reference.inverse(pivot[column]));
            for (int other = 0; other < m.length; other++) {
                if (other != done) {
                    subtract(m[other], pivot, m[other][column]);
                }
            }
            pivotRow[column] = done++;
        }
        for (int row = done; row < m.length; row++) {
            if (m[row][unknowns] != 0) {
                return null;
            }
        }
        int[] answer = new int[unknowns];
        for (int column = 0; column < unknowns; column++) {
            answer[column] = pivotRow[column] < 0 ? 0 : m[pivotRow[column]][unknowns];
        }
        return answer;
    }

    private static void scale(int[] row, int factor) {
        for (int i = 0; i < row.length; i++) {
            row[i] = Reference.times(row[i], factor);
        }
    }

    private static void subtract(int[] row, int[] pivot, int factor) {
        for (int i = 0; i < row.length; i++) {
            row[i] = Reference.mod((long) row[i] - Reference.times(pivot[i], factor));
        }
    }
}
