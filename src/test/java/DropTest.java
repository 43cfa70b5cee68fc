/** Promise 3: drop. */
public final class DropTest {
    public static void main(String[] args) {
        Check check = new Check();
        LineCollector x = new LineCollector();
        x.allocate(0, 1, 1);
        x.allocate(5, 2, 2);
        x.drop(0);
        check.due("root 0", x.root(0), -1);
        check.due("root 5", x.root(5), 1);
        check.due("objects", x.figure(0), 2);
        x.drop(0);
        check.due("root 0 dropped again", x.root(0), -1);
        x.drop(5);
        check.due("root 5 dropped", x.root(5), -1);
        check.due("pause", x.pause(false), 0);
        check.due("objects then", x.figure(0), 0);
        wrongRoots(check);
        oldOnesWaitForTheNextPause(check);
        check.end();
    }

    private static void wrongRoots(Check check) {
        LineCollector x = new LineCollector();
        x.allocate(0, 1, 1);
        for (int r : new int[] {-1, 6, Integer.MIN_VALUE, Integer.MAX_VALUE}) {
            check.throwsDue("drop " + r, IllegalArgumentException.class, () -> x.drop(r));
        }
        check.due("root 0", x.root(0), 0);
    }

    private static void oldOnesWaitForTheNextPause(Check check) {
        LineCollector x = new LineCollector();
        x.allocate(2, 1, 1);
        x.pause(false);
        x.drop(2);
        check.due("no decrement yet", x.figure(2), 0);
        check.due("not in the log", x.figure(3), 0);
        check.due("still there", x.object(4, 2), 1);
        x.pause(false);
        check.due("decrement", x.figure(2), 1);
    }
}
