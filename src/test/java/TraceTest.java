/** Promise 8: trace. */
public final class TraceTest {
    public static void main(String[] args) {
        Check check = new Check();
        theLeastAddressComesFirst(check);
        upToNSteps(check);
        youngOnesHaveNoColour(check);
        whatTheFieldsHoldNow(check);
        exceptionsInOrder(check);
        check.end();
    }

    private static void theLeastAddressComesFirst(Check check) {
        LineCollector x = new LineCollector();
        x.allocate(0, 1, 1);
        x.allocate(1, 1, 2);
        x.allocate(2, 1, 3);
        x.pause(false);
        int low = x.root(0);
        int middle = x.root(1);
        int high = x.root(2);
        x.store(1, 0, 0);
        x.copy(0, 2);
        x.drop(2);
        x.pause(true);
        check.due("GREY", x.trace(0), 2);
        check.due("the low one is WHITE", x.object(low, 3), 0);
        check.due("step", x.trace(1), 2);
        check.due("middle", x.object(middle, 3), 2);
        check.due("low", x.object(low, 3), 1);
        check.due("high", x.object(high, 3), 1);
        check.due("step on", x.trace(1), 1);
        check.due("low then", x.object(low, 3), 2);
        check.due("high then", x.object(high, 3), 1);
        check.due("last step", x.trace(1), 0);
        check.due("high at last", x.object(high, 3), 2);
        check.due("the trace runs on to the pause", x.figure(5), 1);
        check.due("no step left", x.trace(7), 0);
    }

    private static void upToNSteps(Check check) {
        LineCollector x = new LineCollector();
        x.allocate(0, 2, 1);
        for (int k = 0; k < 4; k++) {
            x.allocate(1, 2, k);
            x.store(1, 0, 0);
            x.copy(0, 1);
        }
        x.drop(1);
        x.pause(true);
        check.due("2 steps", x.trace(2), 1);
        check.due("2 steps on", x.trace(2), 1);
        check.due("all", x.trace(Integer.MAX_VALUE), 0);
        x.pause(false);
        check.due("nothing WHITE", x.figure(7), 0);
        check.due("objects", x.figure(0), 5);
        check.throwsDue("none runs", IllegalStateException.class, () -> x.trace(1));
    }

    private static void youngOnesHaveNoColour(Check check) {
        LineCollector x = new LineCollector();
        x.allocate(0, 2, 1);
        x.pause(true);
        x.allocate(1, 1, 2);
        x.store(0, 0, 1);
        check.due("a step", x.trace(1), 0);
        check.due("young", x.object(x.root(1), 3), 0);
        check.due("GREY", x.figure(8), 0);
        x.pause(true);
        check.due("of its count", x.object(x.root(1), 2), 2);
        check.due("gone as WHITE", x.figure(7), 0);
    }

    private static void whatTheFieldsHoldNow(Check check) {
        LineCollector x = new LineCollector();
        x.allocate(0, 1, 1);
        x.allocate(1, 1, 2);
        x.store(0, 0, 1);
        x.drop(1);
        x.pause(true);
        int held = x.field(x.root(0), 0);
        x.store(0, 0, 5);
        check.due("the field holds NONE now", x.trace(1), 0);
        check.due("WHITE", x.object(held, 3), 0);
        x.pause(false);
        check.due("the log turns it GREY", x.object(held, 3), 1);
        check.due("so the trace goes on", x.figure(5), 1);
        check.due("a step", x.trace(1), 0);
    }

    private static void exceptionsInOrder(Check check) {
        LineCollector x = new LineCollector();
        check.throwsDue("none runs", IllegalStateException.class, () -> x.trace(0));
        check.throwsDue("below 0 first", IllegalArgumentException.class, () -> x.trace(-1));
        x.allocate(0, 1, 1);
        x.pause(true);
        check.throwsDue("below 0", IllegalArgumentException.class, () -> x.trace(-1));
        check.throwsDue("least", IllegalArgumentException.class, () -> x.trace(Integer.MIN_VALUE));
        check.due("no step", x.figure(8), 1);
    }
}
