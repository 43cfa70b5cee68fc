/** Promise 10: root. */
public final class RootTest {
    public static void main(String[] args) {
        Check check = new Check();
        LineCollector x = new LineCollector();
        for (int r = 0; r < 6; r++) {
            check.due("NONE", x.root(r), -1);
        }
        for (int r = 0; r < 6; r++) {
            x.allocate(r, 1, r);
            check.due("root " + r, x.root(r), r);
        }
        x.pause(false);
        for (int r = 0; r < 6; r++) {
            check.due("moved, root " + r, x.root(r), 8 + r);
        }
        for (int r : new int[] {-1, 6, 7, Integer.MIN_VALUE, Integer.MAX_VALUE}) {
            check.throwsDue("root " + r, IllegalArgumentException.class, () -> x.root(r));
        }
        check.end();
    }
}
