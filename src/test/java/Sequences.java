import java.util.ArrayList;
import java.util.List;

/** Sequences on which recurrence and predict are tested. */
final class Sequences {
    private Sequences() {
    }

    static List<Table> all() {
        List<Table> found = new ArrayList<>();
        for (int n = 1; n <= 6; n++) {
            addAllOver(found, new int[] {0, 1, Checks.P - 1}, n);
        }
        for (int n = 7; n <= 9; n++) {
            addAllOver(found, new int[] {0, 1}, n);
        }
        for (int n = 1; n <= 16; n++) {
            found.add(Table.spread(n, 1, n));
            found.add(Table.filled(Checks.P - 1, 1, n));
            for (int place = 0; place < n; place++) {
                found.add(Table.single(1, n, place, 3 + place));
            }
            for (int length = 1; length <= n; length++) {
                addMade(found, n, length);
            }
        }
        return found;
    }

    private static void addAllOver(List<Table> found, int[] letters, int n) {
        int count = 1;
        for (int i = 0; i < n; i++) {
            count *= letters.length;
        }
        for (int code = 0; code < count; code++) {
            int[] sequence = new int[n];
            int rest = code;
            for (int i = 0; i < n; i++) {
                sequence[i] = letters[rest % letters.length];
                rest /= letters.length;
            }
            found.add(Table.row(sequence));
        }
    }

    /** A recurrence with well spread factors, and the same with one element changed. */
    private static void addMade(List<Table> found, int n, int length) {
        int[] start = Reference.series(-17 * n - length, length);
        Table made = following(start, Reference.series(31 * n + length, length), n);
        found.add(made);
        for (int place : new int[] {0, n / 2, n - 1}) {
            found.add(made.with(place, Reference.mod(made.at(0, place) + 1L)));
        }
    }

    /** n elements: the start, and then each from those before it by the factors q1, q2, .. */
    static Table following(int[] start, int[] factors, int n) {
        int[] sequence = new int[n];
        for (int i = 0; i < n; i++) {
            long sum = 0;
            for (int j = 1; j <= factors.length && i >= start.length; j++) {
                sum += Reference.times(factors[j - 1], sequence[i - j]);
            }
            sequence[i] = i < start.length ? start[i] : Reference.mod(sum);
        }
        return Table.row(sequence);
    }

    /** The sequence 0, .. 0, 1 of the length, and on by factors that are all 1: it needs just so many factors. */
    static Table lateStart(int length, int n) {
        int[] start = new int[Math.min(length, n)];
        if (length >= 1 && length <= n) {
            start[length - 1] = 1;
        }
        int[] factors = new int[length];
        java.util.Arrays.fill(factors, 1);
        return following(start, factors, n);
    }
}
