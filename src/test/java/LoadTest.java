/** Promise 5: load. */
public final class LoadTest {
    public static void main(String[] args) {
        Check check = new Check();
        LineCollector x = new LineCollector();
        x.allocate(0, 3, 1);
        x.allocate(1, 2, 2);
        x.store(0, 2, 1);
        check.due("an object", x.load(5, 0, 2), 3);
        check.due("root 5", x.root(5), 3);
        check.due("root 0", x.root(0), 0);
        check.due("NONE", x.load(5, 0, 1), -1);
        check.due("root 5 then", x.root(5), -1);
        check.due("field 0", x.load(5, 0, 0), -1);
        check.due("into itself", x.load(0, 0, 2), 3);
        check.due("root 0 then", x.root(0), 3);
        exceptionsInOrder(check);
        afterAMove(check);
        check.end();
    }

    private static void exceptionsInOrder(Check check) {
        LineCollector x = new LineCollector();
        x.allocate(0, 3, 1);
        x.copy(4, 0);
        for (int r : new int[] {-1, 6, Integer.MIN_VALUE, Integer.MAX_VALUE}) {
            check.throwsDue("to " + r, IllegalArgumentException.class, () -> x.load(r, 0, 0));
            check.throwsDue("root " + r, IllegalArgumentException.class, () -> x.load(0, r, 0));
            check.throwsDue("to before NONE", IllegalArgumentException.class, () -> x.load(r, 1, 9));
            check.throwsDue("to before field", IllegalArgumentException.class, () -> x.load(r, 0, 9));
        }
        check.throwsDue("NONE", IllegalStateException.class, () -> x.load(0, 1, 0));
        check.throwsDue("NONE before field", IllegalStateException.class, () -> x.load(0, 1, -1));
        for (int i : new int[] {-1, 3, Integer.MIN_VALUE, Integer.MAX_VALUE}) {
            check.throwsDue("field " + i, IndexOutOfBoundsException.class, () -> x.load(4, 0, i));
        }
        check.due("root 0", x.root(0), 0);
        check.due("root 4", x.root(4), 0);
    }

    private static void afterAMove(Check check) {
        LineCollector x = new LineCollector();
        x.allocate(0, 1, 1);
        x.allocate(1, 1, 2);
        x.store(0, 0, 1);
        x.drop(1);
        x.pause(false);
        check.due("old", x.load(1, 0, 0), 5);
        check.due("not in the log", x.figure(3), 0);
        check.due("the count waits for the pause", x.object(5, 2), 1);
        x.pause(false);
        check.due("the count at the pause", x.object(5, 2), 2);
    }
}
