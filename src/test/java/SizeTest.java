/** Promise 5: size. */
final class SizeTest {
    public static void main(String[] args) {
        ExactTransformDesk desk = Checks.furnished();
        String before = Checks.state(desk);
        Checks.due("size(0)", desk.size(0), 36);
        Checks.due("size(2)", desk.size(2), 66);
        Checks.due("size(3)", desk.size(3), 35);
        for (int v : Checks.NO_TABLES) {
            Checks.due("size(" + v + ")", desk.size(v), -1);
        }
        Checks.dueState("size", desk, before);

        desk.shape(0, 16, 3);
        Checks.due("size of 16 by 3", desk.size(0), 515);
        desk.shape(0, 3, 16);
        Checks.due("size of 3 by 16", desk.size(0), 112);
        desk.shape(0, 16, 1);
        Checks.due("size of 16 by 1", desk.size(0), 513);
        desk.shape(0, 1, 16);
        Checks.due("size of 1 by 16", desk.size(0), 48);
        desk.shape(0, 1, 17);
        Checks.due("size after a refused shape", desk.size(0), 48);
        Checks.finish();
    }
}
