/** Promise 4: copy. */
public final class CopyTest {
    public static void main(String[] args) {
        Check check = new Check();
        LineCollector x = new LineCollector();
        x.allocate(0, 1, 1);
        x.allocate(1, 2, 2);
        x.copy(5, 0);
        check.due("to", x.root(5), 0);
        check.due("from", x.root(0), 0);
        x.copy(0, 1);
        check.due("to another", x.root(0), 1);
        x.copy(0, 0);
        check.due("to itself", x.root(0), 1);
        x.copy(1, 3);
        check.due("of NONE", x.root(1), -1);
        check.due("no object more", x.figure(0), 2);
        check.due("pause", x.pause(false), 2);
        check.due("root 0", x.root(0), 4);
        check.due("root 5", x.root(5), 6);
        x.copy(2, 0);
        x.copy(1, 0);
        check.due("the count waits for the pause", x.object(4, 2), 1);
        x.pause(false);
        check.due("the count at the pause", x.object(4, 2), 3);
        wrongRoots(check, x);
        check.end();
    }

    private static void wrongRoots(Check check, LineCollector x) {
        for (int r : new int[] {-1, 6, Integer.MIN_VALUE, Integer.MAX_VALUE}) {
            check.throwsDue("copy to " + r, IllegalArgumentException.class, () -> x.copy(r, 0));
            check.throwsDue("copy from " + r, IllegalArgumentException.class, () -> x.copy(0, r));
            check.throwsDue("copy both " + r, IllegalArgumentException.class, () -> x.copy(r, r));
        }
        check.due("root 0 as before", x.root(0), 4);
    }
}
