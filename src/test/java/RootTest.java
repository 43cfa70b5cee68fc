/** Promise 10: root. */
public final class RootTest {
    public static void main(String[] args) {
        Check check = new Check();
        LineCollector x = new LineCollector();
        for (int r = 0; r < 6; r++) {
            check.due("NONE", x.root(r), -1);
        }
        for (int r = 0; r < 6; r++) {
            x.allocate(r, 1, r);
            check.due("root " + r, x.root(r), r);
        }
        x.pause(false);
        for (int r = 0; r < 6; r++) {
            check.due("moved, root " + r, x.root(r), 8 + r);
        }
        for (int r : new int[] {-1, 6, 7, Integer.MIN_VALUE, Integer.MAX_VALUE}) {
            check.throwsDue("root " + r, IllegalArgumentException.class, () -> x.root(r));
        }
        eachRootInEachCall(check);
        check.end();
    }

    /** "ROOTS 0 .. 5 hold likewise, at first NONE" */
    private static void eachRootInEachCall(Check check) {
        for (int r = 0; r < 6; r++) {
            LineCollector x = new LineCollector();
            int other = 5 - r;
            check.due("allocate " + r, x.allocate(r, 2, r), 0);
            x.store(r, 1, r);
            x.copy(other, r);
            check.due("copy to " + other, x.root(other), 0);
            x.drop(r);
            check.due("drop " + r, x.root(r), -1);
            check.due("load to " + r, x.load(r, other, 1), 0);
            x.drop(other);
            x.pause(true);
            check.due("held by root " + r + " alone", x.root(r), 4);
            check.due("GREY", x.object(4, 3), 1);
            x.drop(r);
            x.pause(false);
            check.due("decrement of root " + r, x.figure(2), 1);
        }
    }
}
