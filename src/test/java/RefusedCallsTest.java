import java.util.ArrayList;
import java.util.List;
import java.util.NoSuchElementException;

/**
 * "Exceptions are looked for in the order in which a method names them. A call that throws changes nothing": each
 * refused call is made on a heap in which everything is open, and then that heap is compared with one like it.
 */
public final class RefusedCallsTest {
    private static final int[] NO_ROOTS = {-1, 6, Integer.MIN_VALUE, Integer.MAX_VALUE};
    private static final int[] NO_SIZES = {0, 13, -1, Integer.MIN_VALUE, Integer.MAX_VALUE};
    private static final Class<? extends Exception> ARGUMENT = IllegalArgumentException.class;
    private static final Class<? extends Exception> STATE = IllegalStateException.class;
    private static final Class<? extends Exception> INDEX = IndexOutOfBoundsException.class;
    private static final Class<? extends Exception> NO_ELEMENT = NoSuchElementException.class;

    interface Call {
        void on(LineCollector x) throws Exception;
    }

    record Refused(String what, Class<? extends Exception> due, Call call) {
    }

    public static void main(String[] args) {
        Check check = new Check();
        openHeapIsOpen(check);
        for (Refused r : refused()) {
            changesNothing(check, r);
            changesNothingOfWhatComes(check, r);
        }
        traceWithoutATrace(check);
        check.end();
    }

    /**
     * A trace runs with objects of all colours, decrements wait, a field is in the log, hole and overflow are open
     * with cells before and behind their cursors, and root 4 holds NONE. Root 0's object has 3 fields.
     */
    private static LineCollector openHeap() {
        LineCollector x = new LineCollector();
        x.allocate(0, 3, 10);
        x.allocate(1, 2, 11);
        x.allocate(2, 1, 12);
        x.store(0, 0, 1);
        x.store(1, 0, 2);
        x.store(1, 1, 1);
        x.drop(2);
        x.copy(5, 1);
        x.pause(false);
        x.drop(1);
        x.pause(true);
        x.trace(1);
        x.store(0, 1, 0);
        x.allocate(2, 3, 13);
        x.allocate(3, 12, 14);
        x.allocate(3, 12, 15);
        x.store(2, 2, 3);
        return x;
    }

    private static void openHeapIsOpen(Check check) {
        LineCollector x = openHeap();
        check.due("figures", State.figures(x), "6 3 3 1 2 1 3 0 1");
        check.due("roots", State.roots(x), "8 -1 0 44 -1 11");
        check.due("lines", State.lines(x), "12110000 11111122 00000000 00000000");
        check.due("colours", "" + x.object(8, 3) + x.object(11, 3) + x.object(13, 3), "210");
    }

    private static List<Refused> refused() {
        List<Refused> all = new ArrayList<>();
        for (int r : NO_ROOTS) {
            all.add(new Refused("allocate root " + r, ARGUMENT, x -> x.allocate(r, 1, 1)));
            all.add(new Refused("allocate root and size " + r, ARGUMENT, x -> x.allocate(r, 0, 1)));
            all.add(new Refused("drop " + r, ARGUMENT, x -> x.drop(r)));
            all.add(new Refused("copy to " + r, ARGUMENT, x -> x.copy(r, 0)));
            all.add(new Refused("copy from " + r, ARGUMENT, x -> x.copy(0, r)));
            all.add(new Refused("load to " + r, ARGUMENT, x -> x.load(r, 0, 0)));
            all.add(new Refused("load root " + r, ARGUMENT, x -> x.load(0, r, 0)));
            all.add(new Refused("load to " + r + " before NONE and field", ARGUMENT, x -> x.load(r, 4, -1)));
            all.add(new Refused("load root " + r + " before field", ARGUMENT, x -> x.load(0, r, -1)));
            all.add(new Refused("store root " + r, ARGUMENT, x -> x.store(r, 0, 0)));
            all.add(new Refused("store from " + r, ARGUMENT, x -> x.store(0, 0, r)));
            all.add(new Refused("store from " + r + " before NONE and field", ARGUMENT, x -> x.store(4, -1, r)));
            all.add(new Refused("store from " + r + " before field", ARGUMENT, x -> x.store(0, 3, r)));
            all.add(new Refused("root " + r, ARGUMENT, x -> x.root(r)));
        }
        for (int size : NO_SIZES) {
            all.add(new Refused("allocate size " + size, ARGUMENT, x -> x.allocate(0, size, 1)));
        }
        for (int i : new int[] {-1, 3, 12, Integer.MIN_VALUE, Integer.MAX_VALUE}) {
            all.add(new Refused("load field " + i, INDEX, x -> x.load(1, 0, i)));
            all.add(new Refused("store field " + i, INDEX, x -> x.store(0, i, 2)));
            all.add(new Refused("load of NONE before field " + i, STATE, x -> x.load(1, 4, i)));
            all.add(new Refused("store into NONE before field " + i, STATE, x -> x.store(4, i, 2)));
            all.add(new Refused("field " + i, INDEX, x -> x.field(8, i)));
            all.add(new Refused("no object before field " + i, NO_ELEMENT, x -> x.field(9, i)));
        }
        all.add(new Refused("load of NONE", STATE, x -> x.load(1, 4, 0)));
        all.add(new Refused("store into NONE", STATE, x -> x.store(4, 0, 2)));
        addAskingCalls(all);
        return all;
    }

    private static void addAskingCalls(List<Refused> all) {
        for (int n : new int[] {-1, Integer.MIN_VALUE}) {
            all.add(new Refused("drain " + n, ARGUMENT, x -> x.drain(n)));
            all.add(new Refused("trace " + n, ARGUMENT, x -> x.trace(n)));
        }
        for (int address : new int[] {-1, 1, 7, 9, 127, 128, Integer.MIN_VALUE, Integer.MAX_VALUE}) {
            all.add(new Refused("field at " + address, NO_ELEMENT, x -> x.field(address, 0)));
            all.add(new Refused("object at " + address, NO_ELEMENT, x -> x.object(address, 3)));
        }
        for (int what : new int[] {-1, 4, Integer.MIN_VALUE, Integer.MAX_VALUE}) {
            all.add(new Refused("what " + what, ARGUMENT, x -> x.object(8, what)));
            all.add(new Refused("what " + what + " before no object", ARGUMENT, x -> x.object(9, what)));
        }
        for (int l : new int[] {-1, 32, Integer.MIN_VALUE, Integer.MAX_VALUE}) {
            all.add(new Refused("line " + l, INDEX, x -> x.line(l)));
        }
        for (int k : new int[] {-1, 9, Integer.MIN_VALUE, Integer.MAX_VALUE}) {
            all.add(new Refused("figure " + k, ARGUMENT, x -> x.figure(k)));
        }
    }

    private static void changesNothing(Check check, Refused r) {
        LineCollector x = openHeap();
        check.throwsDue(r.what, r.due, () -> r.call.on(x));
        check.due("state behind " + r.what, State.of(x), State.of(openHeap()));
    }

    /** The cursors, the log's fields and the roots at the pause before are not told, but later calls show them. */
    private static void changesNothingOfWhatComes(Check check, Refused r) {
        LineCollector x = openHeap();
        check.throwsDue(r.what, r.due, () -> r.call.on(x));
        LineCollector y = openHeap();
        check.due("what comes behind " + r.what, goOn(x), goOn(y));
        check.due("state then, behind " + r.what, State.of(x), State.of(y));
    }

    private static String goOn(LineCollector x) {
        StringBuilder answers = new StringBuilder();
        answers.append(x.allocate(1, 2, 20)).append(' ').append(x.allocate(1, 8, 21));
        x.store(0, 0, 1);
        x.store(0, 1, 1);
        answers.append(' ').append(x.figure(3)).append(' ').append(x.drain(2)).append(' ').append(x.trace(1));
        answers.append(' ').append(x.pause(false)).append(' ').append(x.figure(2)).append(' ').append(x.drain(4));
        return answers.toString();
    }

    /** "IllegalArgumentException: n is below 0; IllegalStateException: none runs" */
    private static void traceWithoutATrace(Check check) {
        LineCollector x = new LineCollector();
        x.allocate(0, 1, 1);
        x.pause(false);
        String before = State.figures(x);
        check.throwsDue("-1", ARGUMENT, () -> x.trace(-1));
        check.throwsDue("0", STATE, () -> x.trace(0));
        check.throwsDue("1", STATE, () -> x.trace(1));
        check.throwsDue("many", STATE, () -> x.trace(Integer.MAX_VALUE));
        check.due("figures", State.figures(x), before);
    }
}
