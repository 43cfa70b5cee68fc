/** Promise 6: store, and the log. */
public final class StoreTest {
    public static void main(String[] args) {
        Check check = new Check();
        intoYoungOnes(check);
        intoOldOnes(check);
        exceptionsInOrder(check);
        theLogHoldsYoungOnes(check);
        theLogTellsWhatWasHeldFirst(check);
        check.end();
    }

    private static void intoYoungOnes(Check check) {
        LineCollector x = new LineCollector();
        x.allocate(0, 3, 1);
        x.allocate(1, 2, 2);
        x.store(0, 0, 1);
        x.store(0, 2, 0);
        check.due("field 0", x.field(0, 0), 3);
        check.due("field 1", x.field(0, 1), -1);
        check.due("field 2, itself", x.field(0, 2), 0);
        x.store(0, 0, 4);
        check.due("NONE", x.field(0, 0), -1);
        check.due("log", x.figure(3), 0);
    }

    private static void intoOldOnes(Check check) {
        LineCollector x = new LineCollector();
        x.allocate(0, 3, 1);
        x.pause(false);
        x.store(0, 1, 0);
        check.due("first", x.figure(3), 1);
        check.due("field", x.field(4, 1), 4);
        x.store(0, 1, 3);
        check.due("the same field again", x.figure(3), 1);
        check.due("field then", x.field(4, 1), -1);
        x.store(0, 0, 3);
        check.due("NONE over NONE", x.figure(3), 2);
        x.store(0, 2, 0);
        check.due("the last field", x.figure(3), 3);
        x.pause(false);
        check.due("empty after the pause", x.figure(3), 0);
        x.store(0, 2, 0);
        check.due("what it holds already", x.figure(3), 1);
    }

    private static void exceptionsInOrder(Check check) {
        LineCollector x = new LineCollector();
        x.allocate(0, 3, 1);
        x.pause(false);
        for (int r : new int[] {-1, 6, Integer.MIN_VALUE, Integer.MAX_VALUE}) {
            check.throwsDue("root " + r, IllegalArgumentException.class, () -> x.store(r, 0, 0));
            check.throwsDue("from " + r, IllegalArgumentException.class, () -> x.store(0, 0, r));
            check.throwsDue("from before NONE", IllegalArgumentException.class, () -> x.store(1, 9, r));
            check.throwsDue("from before field", IllegalArgumentException.class, () -> x.store(0, 9, r));
        }
        check.throwsDue("NONE", IllegalStateException.class, () -> x.store(1, 0, 0));
        check.throwsDue("NONE before field", IllegalStateException.class, () -> x.store(1, 3, 0));
        for (int i : new int[] {-1, 3, Integer.MIN_VALUE, Integer.MAX_VALUE}) {
            check.throwsDue("field " + i, IndexOutOfBoundsException.class, () -> x.store(0, i, 0));
        }
        check.due("nothing in the log", x.figure(3), 0);
        check.due("field 0", x.field(4, 0), -1);
    }

    private static void theLogHoldsYoungOnes(Check check) {
        LineCollector x = new LineCollector();
        x.allocate(0, 2, 1);
        x.pause(false);
        x.allocate(1, 1, 2);
        x.store(0, 1, 1);
        x.drop(0);
        x.drop(1);
        check.due("held by the log's field alone", x.pause(false), 1);
        check.due("objects", x.figure(0), 2);
        check.due("decrement of the root's", x.figure(2), 1);
        check.due("first drained", x.drain(1), 1);
        check.due("second drained", x.drain(1), 0);
        check.due("objects then", x.figure(0), 0);
    }

    private static void theLogTellsWhatWasHeldFirst(Check check) {
        LineCollector x = new LineCollector();
        x.allocate(0, 2, 1);
        x.allocate(1, 1, 2);
        x.allocate(2, 1, 3);
        x.store(0, 0, 1);
        x.drop(1);
        x.pause(false);
        check.due("count before", x.object(x.field(x.root(0), 0), 2), 1);
        x.store(0, 0, 2);
        x.store(0, 0, 5);
        x.pause(false);
        check.due("decrements of roots 0 and 2, and of the log's one", x.figure(2), 3);
        check.due("roots first", x.drain(2), 1);
        check.due("nothing gone", x.figure(0), 3);
        check.due("then the log", x.drain(1), 0);
        check.due("gone", x.figure(0), 2);
        check.due("what was stored between is there", x.object(x.root(2), 2), 1);
    }
}
