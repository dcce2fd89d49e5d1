/** Promise 4: at. */
final class AtTest {
    public static void main(String[] args) {
        ExactTransformDesk desk = Checks.furnished();
        String before = Checks.state(desk);
        Checks.due("at(0, 0)", desk.at(0, 0), 5);
        Checks.due("at(0, 3)", desk.at(0, 3), Checks.P - 1);
        Checks.due("at(1, 0)", desk.at(1, 0), 0);
        Checks.due("at(2, 2)", desk.at(2, 2), 23);
        Checks.due("at(2, 3)", desk.at(2, 3), 24);
        Checks.due("at(3, 2)", desk.at(3, 2), 33);
        for (int v : Checks.NO_TABLES) {
            Checks.due("at(" + v + ", 0)", desk.at(v, 0), -1);
        }
        for (int i : new int[] {4, 47, 48, 191, -1, -48, Integer.MIN_VALUE, Integer.MAX_VALUE}) {
            for (int v = 0; v < 4; v++) {
                Checks.due("at(" + v + ", " + i + ")", desk.at(v, i), -1);
            }
        }
        Checks.due("at(3, 3)", desk.at(3, 3), -1);
        Checks.dueState("at", desk, before);

        Checks.fill(desk, 1, 3, 16, Reference.series(4, 48));
        Checks.due("at(1, 47) of a full table", desk.at(1, 47), Reference.series(4, 48)[47]);
        Checks.due("at(1, 48) of a full table", desk.at(1, 48), -1);
        Checks.finish();
    }
}
