import java.util.NoSuchElementException;

/** Terms: step 4 of a pause up to 'All objects are WHITE then', at its edges. */
public final class TraceEndEdgesTest {
    public static void main(String[] args) {
        Check check = new Check();
        withoutATraceNothingEnds(check);
        oneGreyObjectKeepsTheTraceFromEnding(check);
        theLastGreyOneIsGoneInStep1(check);
        whatTheLastGreyOneHeldKeepsTheTrace(check);
        noWhiteObject(check);
        allObjectsAreWhite(check);
        decrementsByRisingAddressesAndFields(check);
        whiteOnesHoldWhiteOnesWithoutDecrements(check);
        onlyCountsOf3AreCountedAnew(check);
        countedAnewTo3(check);
        countedAnewTo3AtMost(check);
        countedAnewTo2(check);
        countedAnewTo1ByAField(check);
        countedAnewTo1ByItsOwnField(check);
        countedAnewTo1ByADecrement(check);
        countedAnewTo0(check);
        aGoneOnesDecrementsCount(check);
        newObjectsAreWhiteBehindTheEnd(check);
        check.end();
    }

    private static void gone(Check check, LineCollector x, int address) {
        check.throwsDue("gone at " + address, NoSuchElementException.class, () -> x.object(address, 0));
    }

    /** A circle of one object at 5, which nothing else holds, and root 0's object at 4. */
    private static LineCollector lostCircle() {
        LineCollector x = new LineCollector();
        x.allocate(0, 1, 1);
        x.allocate(1, 1, 2);
        x.store(1, 0, 1);
        x.pause(false);
        x.drop(1);
        x.pause(false);
        x.drain(9);
        return x;
    }

    /** "4. If a trace runs" */
    private static void withoutATraceNothingEnds(Check check) {
        LineCollector x = lostCircle();
        x.pause(false);
        check.due("WHITE, and there", x.object(5, 1), 2);
        check.due("not moved", x.root(0), 4);
        check.due("gone as WHITE", x.figure(7), 0);
    }

    /** "and no object is GREY" */
    private static void oneGreyObjectKeepsTheTraceFromEnding(Check check) {
        LineCollector x = lostCircle();
        x.pause(true);
        x.pause(false);
        x.pause(true);
        check.due("it runs", x.figure(5), 1);
        check.due("one is GREY", x.figure(8), 1);
        check.due("WHITE, and there", x.object(5, 1), 2);
        x.trace(1);
        x.pause(false);
        check.due("it ended", x.figure(5), 0);
        check.due("gone as WHITE", x.figure(7), 1);
    }

    private static void theLastGreyOneIsGoneInStep1(Check check) {
        LineCollector x = new LineCollector();
        x.allocate(0, 1, 1);
        x.pause(true);
        x.drop(0);
        x.pause(false);
        check.due("it runs, for the object waits to be drained", x.figure(5), 1);
        check.due("GREY", x.figure(8), 1);
        x.pause(false);
        check.due("it ended", x.figure(5), 0);
        check.due("no object", x.figure(0), 0);
        check.due("none gone as WHITE", x.figure(7), 0);
    }

    private static void whatTheLastGreyOneHeldKeepsTheTrace(Check check) {
        LineCollector x = new LineCollector();
        x.allocate(0, 1, 1);
        x.allocate(1, 1, 2);
        x.store(0, 0, 1);
        x.drop(1);
        x.pause(true);
        x.load(1, 0, 0);
        x.drop(0);
        x.pause(false);
        check.due("the one at 4 is GREY", x.object(4, 3), 1);
        check.due("the one at 5 is WHITE", x.object(5, 3), 0);
        x.pause(false);
        gone(check, x, 4);
        check.due("the one at 5 is GREY", x.object(5, 3), 1);
        check.due("the trace runs", x.figure(5), 1);
    }

    /** "all WHITE objects are gone": here there is none, and no object at all in the second heap */
    private static void noWhiteObject(Check check) {
        LineCollector x = new LineCollector();
        x.allocate(0, 1, 1);
        Layout.traceAll(x);
        check.due("none gone", x.figure(7), 0);
        check.due("objects", x.figure(0), 1);
        LineCollector y = new LineCollector();
        Layout.traceAll(y);
        check.due("figures", State.figures(y), "0 0 0 0 2 0 0 0 0");
    }

    private static void allObjectsAreWhite(Check check) {
        LineCollector x = Layout.keep(4, true, 0, 4, 8, 12, 16, 20, 24, 28);
        x.drop(0);
        x.pause(false);
        x.drain(9);
        check.due("counts do not find them", x.figure(0), 8);
        Layout.traceAll(x);
        check.due("all gone", x.figure(0), 0);
        check.due("as WHITE ones", x.figure(7), 8);
        check.due("no decrement", x.figure(2), 0);
        check.due("lines", State.lines(x), "00000000 00000000 00000000 00000000");
    }

    /** "for each of them, by rising addresses, and each of its fields, in order, that holds an object which is not" */
    private static void decrementsByRisingAddressesAndFields(Check check) {
        LineCollector x = new LineCollector();
        x.allocate(0, 3, 0);
        for (int r = 1; r <= 3; r++) {
            x.allocate(r, 1, r);
            x.store(0, r - 1, r);
        }
        x.allocate(5, 2, 5);
        x.store(5, 0, 5);
        x.store(5, 1, 3);
        x.allocate(4, 3, 4);
        x.store(4, 0, 4);
        x.store(4, 1, 2);
        x.store(4, 2, 1);
        for (int r = 1; r <= 3; r++) {
            x.drop(r);
        }
        x.pause(false);
        check.due("root 4's lies before root 5's", x.root(4) < x.root(5), true);
        x.drop(4);
        x.drop(5);
        Layout.traceAll(x);
        check.due("gone as WHITE", x.figure(7), 2);
        check.due("root 0's, and three of fields", x.figure(2), 4);
        counts(check, x, "2 2 2");
        x.drain(1);
        counts(check, x, "2 2 2");
        x.drain(1);
        counts(check, x, "2 1 2");
        x.drain(1);
        counts(check, x, "1 1 2");
        x.drain(1);
        counts(check, x, "1 1 1");
    }

    private static void counts(Check check, LineCollector x, String due) {
        StringBuilder got = new StringBuilder();
        for (int i = 0; i < 3; i++) {
            got.append(i > 0 ? " " : "").append(x.object(x.field(x.root(0), i), 2));
        }
        check.due("counts of what root 0's fields hold", got.toString(), due);
    }

    private static void whiteOnesHoldWhiteOnesWithoutDecrements(Check check) {
        LineCollector x = new LineCollector();
        x.allocate(0, 2, 1);
        x.allocate(1, 2, 2);
        x.store(0, 0, 1);
        x.store(0, 1, 0);
        x.store(1, 0, 0);
        x.store(1, 1, 1);
        x.pause(false);
        x.drop(0);
        x.drop(1);
        Layout.traceAll(x);
        check.due("gone as WHITE", x.figure(7), 2);
        check.due("no decrement", x.figure(2), 0);
    }

    /** Root 0's object at 4 has been held by the roots 1 and 2, too, at one pause: its count is 3. */
    private static LineCollector stuck(int size) {
        LineCollector x = new LineCollector();
        x.allocate(0, size, 1);
        x.copy(1, 0);
        x.copy(2, 0);
        x.pause(false);
        return x;
    }

    /** "Then each object with the count 3" */
    private static void onlyCountsOf3AreCountedAnew(Check check) {
        LineCollector x = new LineCollector();
        x.allocate(0, 1, 1);
        Layout.traceAll(x);
        check.due("1 and a root", x.object(x.root(0), 2), 2);
        x.drain(1);
        check.due("drained", x.object(x.root(0), 2), 1);
    }

    /** "how many roots, fields and waiting decrements there are that hold it, or are of it" */
    private static void countedAnewTo3(Check check) {
        LineCollector x = stuck(1);
        x.drop(1);
        x.drop(2);
        x.store(0, 0, 0);
        x.pause(true);
        x.drain(9);
        Layout.endTrace(x);
        check.due("a root, a field and a decrement", x.object(x.root(0), 2), 3);
        x.drain(9);
        check.due("3 stays", x.object(x.root(0), 2), 3);
    }

    /** "but at most 3" */
    private static void countedAnewTo3AtMost(Check check) {
        LineCollector x = stuck(1);
        x.drop(1);
        x.drop(2);
        x.pause(true);
        for (int r = 1; r < 6; r++) {
            x.copy(r, 0);
        }
        Layout.endTrace(x);
        check.due("six roots and a decrement", x.object(x.root(0), 2), 3);
        for (int r = 1; r < 6; r++) {
            x.drop(r);
        }
        x.pause(false);
        x.drain(9);
        check.due("3 stays", x.object(x.root(0), 2), 3);
    }

    private static void countedAnewTo2(Check check) {
        LineCollector x = stuck(1);
        x.drop(1);
        x.drop(2);
        x.pause(true);
        x.drain(9);
        Layout.endTrace(x);
        check.due("a root and a decrement", x.object(x.root(0), 2), 2);
        check.due("drained", x.drain(1), 0);
        check.due("goes down again", x.object(x.root(0), 2), 1);
        x.drop(0);
        x.pause(false);
        x.drain(1);
        check.due("gone", x.figure(0), 0);
    }

    private static void countedAnewTo1ByAField(Check check) {
        LineCollector x = stuck(1);
        x.drop(1);
        x.drop(2);
        x.allocate(3, 4, 3);
        x.store(3, 3, 0);
        x.drop(0);
        x.pause(false);
        x.drain(9);
        check.due("3 stays", x.object(4, 2), 3);
        Layout.traceAll(x);
        check.due("a field", x.object(x.field(x.root(3), 3), 2), 1);
        x.drop(3);
        x.pause(false);
        x.drain(9);
        check.due("both gone", x.figure(0), 0);
    }

    private static void countedAnewTo1ByItsOwnField(Check check) {
        LineCollector x = stuck(2);
        x.store(0, 1, 0);
        x.pause(true);
        for (int r = 0; r < 3; r++) {
            x.drop(r);
        }
        x.pause(false);
        x.drain(9);
        Layout.endTrace(x);
        check.due("there", x.figure(0), 1);
        check.due("its own field, in block 1 now", x.object(32, 2), 1);
        Layout.traceAll(x);
        check.due("gone as a WHITE one", x.figure(7), 1);
    }

    private static void countedAnewTo1ByADecrement(Check check) {
        LineCollector x = stuck(1);
        x.drop(1);
        x.drop(2);
        x.pause(true);
        x.trace(9);
        x.drop(0);
        x.pause(false);
        check.due("a decrement", x.object(32, 2), 1);
        check.due("it waits", x.figure(2), 1);
        x.drain(1);
        check.due("gone", x.figure(0), 0);
        check.due("not as a WHITE one", x.figure(7), 0);
    }

    /** "if that is 0, it is gone, and decrements of what its fields hold come behind the row as in draining" */
    private static void countedAnewTo0(Check check) {
        LineCollector x = stuck(3);
        x.allocate(4, 1, 4);
        x.allocate(5, 1, 5);
        x.store(0, 0, 5);
        x.store(0, 2, 4);
        x.pause(true);
        for (int r = 0; r < 6; r++) {
            x.drop(r);
        }
        x.pause(false);
        x.drain(9);
        check.due("three are there", x.figure(0), 3);
        Layout.endTrace(x);
        check.due("two are left", x.figure(0), 2);
        check.due("two decrements", x.figure(2), 2);
        check.due("none gone as WHITE", x.figure(7), 0);
        check.due("one is drained", x.drain(1), 1);
        check.due("field 0's is gone, field 2's is there", x.object(32, 1), 4);
        check.due("the last is drained", x.drain(1), 0);
        check.due("no object", x.figure(0), 0);
    }

    /** Two with the count 3, the one holding the other, whichever has the lower address. */
    private static void aGoneOnesDecrementsCount(Check check) {
        for (int holder = 0; holder < 2; holder++) {
            LineCollector x = new LineCollector();
            x.allocate(0, 1, 0);
            x.allocate(1, 1, 1);
            x.store(holder, 0, 1 - holder);
            for (int r = 2; r < 4; r++) {
                x.copy(r, 0);
                x.copy(r + 2, 1);
            }
            x.pause(true);
            check.due("both have the count 3", x.object(4, 2) + x.object(5, 2), 6);
            for (int r = 0; r < 6; r++) {
                x.drop(r);
            }
            x.pause(false);
            x.drain(9);
            Layout.endTrace(x);
            check.due("one is left", x.figure(0), 1);
            check.due("it is the one that was held", x.object(32, 1), 1 - holder);
            check.due("its count is its decrement", x.object(32, 2), 1);
            check.due("which waits", x.figure(2), 1);
            x.drain(1);
            check.due("gone", x.figure(0), 0);
        }
    }

    /** "All objects are WHITE then."; "No trace runs then." */
    private static void newObjectsAreWhiteBehindTheEnd(Check check) {
        LineCollector x = new LineCollector();
        x.allocate(0, 1, 1);
        x.pause(true);
        x.trace(1);
        check.due("BLACK", x.object(4, 3), 2);
        x.allocate(1, 1, 2);
        x.pause(false);
        check.due("root 0's", x.object(x.root(0), 3), 0);
        check.due("root 1's, BLACK in step 2", x.object(x.root(1), 3), 0);
        x.allocate(2, 1, 3);
        x.pause(false);
        check.due("root 2's, for no trace runs", x.object(x.root(2), 3), 0);
    }
}
