/** Promise 3: put. */
final class PutTest {
    private static void testEveryElement() {
        for (int[] shape : Checks.EDGE_SHAPES) {
            Tables before = Tables.alike(shape[0], shape[1]);
            for (int i = 0; i < shape[0] * shape[1]; i++) {
                int place = i;
                int v = i % 4;
                Tables after = before.with(v, before.get(v).with(i, 4000 + i));
                before.taken("put(" + v + ", " + i + ", ..)", d -> d.put(v, place, 4000 + place), after);
            }
        }
    }

    private static void testByHand() {
        ExactTransformDesk desk = Tables.fresh().desk();
        desk.put(0, 0, -1);
        Checks.due("at after put of -1", desk.at(0, 0), 1014773760);
        desk.put(0, 0, 1014773761);
        Checks.due("at after put of P", desk.at(0, 0), 0);
        desk.put(0, 0, -2147483648);
        Checks.due("at after put of -2147483648", desk.at(0, 0), 896837635);
        desk.put(0, 0, 2147483647);
        Checks.due("at after put of 2147483647", desk.at(0, 0), 117936125);
    }

    public static void main(String[] args) {
        testEveryElement();
        testByHand();
        Checks.finish();
    }
}
