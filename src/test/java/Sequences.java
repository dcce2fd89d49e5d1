import java.util.ArrayList;
import java.util.List;

/** Sequences on which recurrence and predict are tested. */
final class Sequences {
    private Sequences() {
    }

    static List<int[]> all() {
        List<int[]> found = new ArrayList<>();
        for (int n = 1; n <= 6; n++) {
            addAllOver(found, new int[] {0, 1, Checks.P - 1}, n);
        }
        for (int n = 7; n <= 9; n++) {
            addAllOver(found, new int[] {0, 1}, n);
        }
        for (int n = 1; n <= 16; n++) {
            found.add(Reference.series(n, n));
            found.add(Reference.repeated(Checks.P - 1, n));
            addSingles(found, n);
            addMade(found, n);
        }
        return found;
    }

    private static void addAllOver(List<int[]> found, int[] letters, int n) {
        int count = 1;
        for (int i = 0; i < n; i++) {
            count *= letters.length;
        }
        for (int code = 0; code < count; code++) {
            int[] sequence = new int[n];
            int rest = code;
            for (int i = 0; i < n; i++) {
                sequence[i] = letters[rest % letters.length];
                rest /= letters.length;
            }
            found.add(sequence);
        }
    }

    private static void addSingles(List<int[]> found, int n) {
        for (int place = 0; place < n; place++) {
            int[] sequence = new int[n];
            sequence[place] = 3 + place;
            found.add(sequence);
        }
    }

    /** Recurrences of every length with well spread factors, and the same with one element changed. */
    private static void addMade(List<int[]> found, int n) {
        for (int length = 1; length <= n; length++) {
            int[] factors = Reference.series(31 * n + length, length);
            int[] sequence = Reference.series(-17 * n - length, n);
            for (int i = length; i < n; i++) {
                long sum = 0;
                for (int j = 1; j <= length; j++) {
                    sum += Reference.times(factors[j - 1], sequence[i - j]);
                }
                sequence[i] = Reference.mod(sum);
            }
            found.add(sequence);
            for (int place : new int[] {0, n / 2, n - 1}) {
                int[] changed = sequence.clone();
                changed[place] = Reference.mod(changed[place] + 1L);
                found.add(changed);
            }
        }
    }
}
