/** Terms: the trace and its steps, at their edges; each method is one part of these sentences. */
public final class TraceEdgesTest {
    public static void main(String[] args) {
        Check check = new Check();
        noneRunsAtFirst(check);
        noStep(check);
        asManyStepsAsThereAreGreyOnesAndOneMore(check);
        aTraceOfNothing(check);
        anObjectThatHoldsNothing(check);
        anObjectThatHoldsItself(check);
        whatIsBlackStaysBlack(check);
        whatIsYoungStaysYoung(check);
        allFieldsFromTheFirstToTheLast(check);
        theLeastAddressIsLookedForAtEveryStep(check);
        aTraceOfAFullHeap(check);
        noneRunsBehindTheEnd(check);
        check.end();
    }

    /** "A TRACE runs or does not."; "IllegalStateException: none runs" */
    private static void noneRunsAtFirst(Check check) {
        LineCollector x = new LineCollector();
        check.due("none", x.figure(5), 0);
        check.throwsDue("no step of none", IllegalStateException.class, () -> x.trace(0));
        x.allocate(0, 1, 1);
        x.pause(false);
        check.throwsDue("a pause with which none begins", IllegalStateException.class, () -> x.trace(1));
    }

    /** An object in each of three roots at 4, 5 and 6, all GREY. */
    private static LineCollector threeGrey() {
        LineCollector x = new LineCollector();
        for (int r = 0; r < 3; r++) {
            x.allocate(r, 1, r);
        }
        x.pause(true);
        return x;
    }

    /** "Up to n steps" */
    private static void noStep(Check check) {
        LineCollector x = threeGrey();
        check.due("0 steps", x.trace(0), 3);
        check.due("the first is GREY", x.object(4, 3), 1);
    }

    private static void asManyStepsAsThereAreGreyOnesAndOneMore(Check check) {
        LineCollector x = threeGrey();
        check.due("one less", x.trace(2), 1);
        check.due("just as many", x.trace(1), 0);
        check.due("the trace runs", x.figure(5), 1);
        check.due("one more", x.trace(1), 0);
        check.due("the trace runs still", x.figure(5), 1);
        LineCollector y = threeGrey();
        check.due("all at once and one more", y.trace(4), 0);
        check.due("as many as there can be", threeGrey().trace(Integer.MAX_VALUE), 0);
    }

    private static void aTraceOfNothing(Check check) {
        LineCollector x = new LineCollector();
        check.due("no object", x.pause(true), 0);
        check.due("it runs", x.figure(5), 1);
        check.due("no step", x.trace(0), 0);
        check.due("steps", x.trace(9), 0);
        x.pause(false);
        check.due("it ended", x.figure(5), 0);
        check.due("pauses", x.figure(4), 2);
    }

    private static void anObjectThatHoldsNothing(Check check) {
        LineCollector x = new LineCollector();
        x.allocate(0, 12, 1);
        x.pause(true);
        check.due("one step", x.trace(1), 0);
        check.due("BLACK", x.object(x.root(0), 3), 2);
    }

    /** It "becomes BLACK, and all old WHITE ones that its fields hold become GREY": it is BLACK itself by then. */
    private static void anObjectThatHoldsItself(Check check) {
        LineCollector x = new LineCollector();
        x.allocate(0, 2, 1);
        x.store(0, 0, 0);
        x.pause(true);
        check.due("one step", x.trace(1), 0);
        check.due("BLACK", x.object(4, 3), 2);
    }

    private static void whatIsBlackStaysBlack(Check check) {
        LineCollector x = new LineCollector();
        x.allocate(0, 1, 1);
        x.allocate(1, 2, 2);
        x.store(1, 0, 0);
        x.store(0, 0, 1);
        x.pause(true);
        check.due("root 0's", x.trace(1), 1);
        check.due("root 1's", x.trace(1), 0);
        check.due("BLACK", x.object(4, 3) + x.object(5, 3), 4);
    }

    /** "all old WHITE ones": a young one has no colour. */
    private static void whatIsYoungStaysYoung(Check check) {
        LineCollector x = new LineCollector();
        x.allocate(0, 2, 1);
        x.pause(true);
        x.allocate(1, 1, 2);
        x.store(0, 0, 1);
        check.due("no GREY one comes", x.trace(1), 0);
        check.due("young", x.object(0, 2) + x.object(0, 3), 0);
        check.due("how many are young", x.figure(1), 1);
        x.pause(false);
        check.due("the trace ended, and it is there", x.object(x.root(1), 1), 2);
    }

    private static void allFieldsFromTheFirstToTheLast(Check check) {
        for (int i = 0; i < 12; i++) {
            LineCollector x = new LineCollector();
            x.allocate(0, 12, 1);
            x.allocate(1, 1, 2);
            x.store(0, i, 1);
            x.drop(1);
            x.pause(true);
            check.due("field " + i + " holds a GREY one", x.trace(1), 1);
            check.due("GREY", x.object(x.field(x.root(0), i), 3), 1);
        }
    }

    /** "of all GREY objects the one with the least address" */
    private static void theLeastAddressIsLookedForAtEveryStep(Check check) {
        LineCollector x = new LineCollector();
        x.allocate(5, 1, 5);
        x.allocate(4, 1, 4);
        x.allocate(3, 1, 3);
        x.store(3, 0, 5);
        x.drop(5);
        x.pause(false);
        check.due("roots", State.roots(x), "-1 -1 -1 4 5 -1");
        x.pause(true);
        check.due("roots 3 and 4", x.figure(8), 2);
        check.due("the one at 4 makes the one at 6 GREY", x.trace(1), 2);
        check.due("5 comes before 6", x.trace(1), 1);
        check.due("at 5", x.object(5, 3), 2);
        check.due("at 6", x.object(6, 3), 1);
        LineCollector y = new LineCollector();
        y.allocate(0, 1, 0);
        y.pause(false);
        y.allocate(1, 1, 1);
        y.pause(false);
        y.store(1, 0, 0);
        y.allocate(2, 1, 2);
        y.drop(0);
        y.pause(true);
        check.due("roots", State.roots(y), "-1 8 12 -1 -1 -1");
        check.due("the one at 8 makes the one at 4 GREY", y.trace(1), 2);
        check.due("4 comes before 12", y.trace(1), 1);
        check.due("at 4", y.object(4, 3), 2);
        check.due("at 12", y.object(12, 3), 1);
    }

    private static void aTraceOfAFullHeap(Check check) {
        LineCollector x = new LineCollector();
        for (int k = 0; k < 128; k++) {
            x.allocate(1, 1, k);
            x.store(1, 0, 0);
            x.copy(0, 1);
        }
        x.drop(1);
        check.due("all live on", x.pause(true), 128);
        check.due("127 steps", x.trace(127), 1);
        check.due("the last one, at the first cell", x.object(0, 3), 1);
        check.due("128 steps", x.trace(1), 0);
        x.pause(false);
        check.due("nothing gone", x.figure(0), 128);
        check.due("nothing moved", x.figure(6), 0);
    }

    private static void noneRunsBehindTheEnd(Check check) {
        LineCollector x = threeGrey();
        x.trace(3);
        x.pause(false);
        check.due("ended", x.figure(5), 0);
        check.throwsDue("none runs", IllegalStateException.class, () -> x.trace(1));
        check.throwsDue("n first", IllegalArgumentException.class, () -> x.trace(-1));
    }
}
