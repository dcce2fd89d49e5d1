/** Promise 1: all four tables have one row, one column and the element 0. */
final class NewObjectTest {
    public static void main(String[] args) {
        ExactTransformDesk desk = new ExactTransformDesk();
        for (int v = 0; v < 4; v++) {
            Checks.dueTable("new", desk, v, 1, 1, 0);
        }
        Checks.fill(desk, 2, 2, 2, 1, 2, 3, 4);
        ExactTransformDesk other = new ExactTransformDesk();
        Checks.dueTable("new beside a used one", other, 2, 1, 1, 0);
        Checks.dueTable("the used one", desk, 2, 2, 2, 1, 2, 3, 4);
        Checks.finish();
    }
}
