/** Promise 1: a new object. */
final class NewObjectTest {
    /** "All four tables have one row and one column and the element 0." */
    private static void testAllFour() {
        ExactTransformDesk desk = new ExactTransformDesk();
        for (int v = 0; v < 4; v++) {
            Checks.due("new, size(" + v + ")", desk.size(v), 33);
            Checks.due("new, at(" + v + ", -1)", desk.at(v, -1), -1);
            Checks.due("new, at(" + v + ", 0)", desk.at(v, 0), 0);
            Checks.due("new, at(" + v + ", 1)", desk.at(v, 1), -1);
        }
        Checks.due("new, size(-1)", desk.size(-1), -1);
        Checks.due("new, size(4)", desk.size(4), -1);
    }

    /** The element 0 in one row and one column, as each call sees it that is the first one on the object. */
    private static void testFirstCalls() {
        for (int v = 0; v < 4; v++) {
            Checks.due("new, recurrence(" + v + ")", new ExactTransformDesk().recurrence(v), 0);
            Checks.due("new, predict(" + v + ")", new ExactTransformDesk().predict(v), 0);
            Checks.due("new, evaluate(" + v + ", 5)", new ExactTransformDesk().evaluate(v, 5), 0);
            ExactTransformDesk desk = new ExactTransformDesk();
            Checks.due("new, put(" + v + ", 1, 5)", desk.put(v, 1, 5), false);
            Tables.fresh().due("new, put(" + v + ", 1, 5)", desk);
            desk = new ExactTransformDesk();
            Checks.due("new, put(" + v + ", 0, 5)", desk.put(v, 0, 5), true);
            Tables.fresh().with(v, Table.row(5)).due("new, put(" + v + ", 0, 5)", desk);
            desk = new ExactTransformDesk();
            Checks.due("new, reciprocal(" + v + ", " + v + ")", desk.reciprocal(v, v), false);
            Tables.fresh().due("new, reciprocal(" + v + ", " + v + ")", desk);
        }
        testTakenFirst();
    }

    private static void testTakenFirst() {
        ExactTransformDesk desk = new ExactTransformDesk();
        Checks.due("new, transform(3, 2, true)", desk.transform(3, 2, true), true);
        Checks.due("new, convolve(0, 1, 2, 2)", desk.convolve(0, 1, 2, 2), true);
        Checks.due("new, chirp(1, 2, 7, 7)", desk.chirp(1, 2, 7, 7), true);
        Checks.due("new, add(2, 3, 0, 9)", desk.add(2, 3, 0, 9), true);
        Checks.due("new, multiply(3, 0, 1)", desk.multiply(3, 0, 1), true);
        Checks.due("new, rotate(0, 5)", desk.rotate(0, 5), true);
        Checks.due("new, interpolate(0, 1, 2)", desk.interpolate(0, 1, 2), true);
        Tables.fresh().due("new, whole table calls on 0", desk);
    }

    private static void testObjectsStandApart() {
        Tables full = Tables.alike(6, 8);
        ExactTransformDesk desk = full.desk();
        ExactTransformDesk other = new ExactTransformDesk();
        Tables.fresh().due("new beside a used one", other);
        other.put(2, 0, 7);
        full.due("the used one beside a new one", desk);
    }

    public static void main(String[] args) {
        testAllFour();
        testFirstCalls();
        testObjectsStandApart();
        Checks.finish();
    }
}
