import java.util.NoSuchElementException;

/** Promise 9: pause, step by step; what a trace does at its end is in TraceEndTest. */
public final class PauseTest {
    public static void main(String[] args) {
        Check check = new Check();
        youngOnesThatNothingHoldsAreGone(check);
        slotsAreTakenInOrder(check);
        linesMovedFromStayUsed(check);
        withoutAPlaceNothingMoves(check);
        countsGoUpToThree(check);
        decrementsAreDrainedFirst(check);
        decrementsComeInOrder(check);
        newOldOnesAreBlackWhileATraceRuns(check);
        theLogTurnsWhiteOnesGrey(check);
        rootsThatAreDroppedTurnNothingGrey(check);
        aTraceBegins(check);
        aTraceThatRunsGoesOn(check);
        oneEndsAndOneBegins(check);
        holeAndOverflowAreNone(check);
        check.end();
    }

    private static void youngOnesThatNothingHoldsAreGone(Check check) {
        LineCollector x = new LineCollector();
        x.allocate(0, 2, 1);
        x.allocate(0, 2, 2);
        x.allocate(1, 2, 3);
        x.store(1, 0, 0);
        x.drop(0);
        check.due("two live on", x.pause(false), 2);
        check.due("objects", x.figure(0), 2);
        check.due("young", x.figure(1), 0);
        check.due("root 1", x.root(1), 8);
        check.due("field", x.field(8, 0), 10);
        check.due("tag of the one", x.object(8, 1), 3);
        check.due("tag of the other", x.object(10, 1), 2);
        check.due("lines left", x.line(0) + x.line(1), 0);
        check.due("moves", x.figure(6), 2);
        check.due("pauses", x.figure(4), 1);
        check.due("none more", x.pause(false), 0);
        check.due("old ones stay where they are", x.root(1), 8);
        check.due("no move more", x.figure(6), 2);
    }

    /** Roots first, then the log's fields in the order of the log, then fields of those, breadth first. */
    private static void slotsAreTakenInOrder(Check check) {
        LineCollector x = new LineCollector();
        x.allocate(0, 2, 0);
        x.pause(false);
        x.allocate(1, 1, 1);
        x.store(0, 1, 1);
        x.allocate(2, 1, 2);
        x.store(0, 0, 2);
        x.allocate(3, 2, 3);
        x.allocate(4, 1, 4);
        x.allocate(5, 1, 5);
        x.store(3, 1, 4);
        x.store(3, 0, 5);
        for (int r : new int[] {1, 2, 4, 5}) {
            x.drop(r);
        }
        check.due("became old", x.pause(false), 5);
        int start = x.root(3);
        int[] tags = {3, 1, 2, 5, 4};
        int[] steps = {0, 2, 3, 4, 5};
        for (int k = 0; k < 5; k++) {
            check.due("tag at step " + k, x.object(start + steps[k], 1), tags[k]);
        }
        check.due("they lie behind all that was there", start, 12);
    }

    private static void linesMovedFromStayUsed(Check check) {
        LineCollector x = new LineCollector();
        x.allocate(0, 4, 0);
        for (int k = 1; k < 31; k++) {
            x.allocate(1, 4, k);
        }
        x.pause(false);
        check.due("the one free line", x.root(0), 124);
        check.due("no line left for the second", x.root(1), 120);
        check.due("moves", x.figure(6), 1);
        check.due("the line moved from is free then", x.line(0), 0);
        check.due("objects", x.figure(0), 2);
    }

    private static void withoutAPlaceNothingMoves(Check check) {
        LineCollector x = new LineCollector();
        for (int k = 0; k < 8; k++) {
            x.allocate(k % 2, 12, k);
        }
        x.allocate(2, 1, 8);
        check.due("small", x.root(2), 24);
        check.due("became old", x.pause(false), 3);
        check.due("12 cells stay", x.root(0), 96);
        check.due("12 more stay", x.root(1), 108);
        check.due("small moved to what is left of block 0", x.root(2), 28);
        check.due("moves", x.figure(6), 1);
    }

    private static void countsGoUpToThree(Check check) {
        LineCollector x = new LineCollector();
        x.allocate(0, 4, 1);
        x.store(0, 0, 0);
        x.pause(false);
        check.due("root and field", x.object(4, 2), 2);
        x.store(0, 1, 0);
        x.pause(false);
        check.due("3 at most", x.object(4, 2), 3);
        check.due("decrements", x.figure(2), 1);
        x.pause(false);
        check.due("3 stays", x.object(4, 2), 3);
    }

    private static void decrementsAreDrainedFirst(Check check) {
        LineCollector x = new LineCollector();
        x.allocate(0, 4, 1);
        x.allocate(1, 4, 2);
        x.store(0, 0, 1);
        x.drop(1);
        x.pause(false);
        check.due("at line 2", x.root(0), 8);
        x.drop(0);
        x.pause(false);
        x.allocate(2, 4, 3);
        x.allocate(2, 4, 4);
        x.allocate(2, 4, 5);
        check.due("a line behind these", x.root(2), 16);
        check.due("one grows old", x.pause(false), 1);
        check.due("all others are gone, also what came meanwhile", x.figure(0), 1);
        check.due("their lines were free for it", x.root(2), 8);
    }

    private static void decrementsComeInOrder(Check check) {
        LineCollector x = new LineCollector();
        x.allocate(3, 2, 30);
        x.allocate(1, 1, 10);
        x.allocate(2, 1, 20);
        x.allocate(5, 1, 50);
        x.store(3, 0, 1);
        x.store(3, 1, 2);
        x.drop(1);
        x.drop(2);
        x.pause(false);
        int log0 = x.field(x.root(3), 0);
        int log1 = x.field(x.root(3), 1);
        int root5 = x.root(5);
        x.store(3, 1, 0);
        x.store(3, 0, 0);
        x.drop(5);
        x.pause(false);
        check.due("roots 3 and 5, fields 1 and 0", x.figure(2), 4);
        check.due("root 3", x.drain(1), 3);
        check.due("nothing gone", x.figure(0), 4);
        check.due("root 5", x.drain(1), 2);
        check.throwsDue("root 5's is gone", NoSuchElementException.class, () -> x.object(root5, 0));
        check.due("field 1, as it came into the log", x.drain(1), 1);
        check.throwsDue("field 1's is gone", NoSuchElementException.class, () -> x.object(log1, 0));
        check.due("field 0's is there", x.object(log0, 1), 10);
        check.due("field 0", x.drain(1), 0);
        check.throwsDue("field 0's is gone", NoSuchElementException.class, () -> x.object(log0, 0));
    }

    private static void newOldOnesAreBlackWhileATraceRuns(Check check) {
        LineCollector x = new LineCollector();
        x.allocate(0, 1, 1);
        x.pause(true);
        x.allocate(1, 1, 2);
        x.pause(false);
        check.due("the trace runs", x.figure(5), 1);
        check.due("BLACK", x.object(x.root(1), 3), 2);
        check.due("still GREY", x.object(x.root(0), 3), 1);
        x.trace(1);
        x.allocate(2, 1, 3);
        x.pause(false);
        check.due("the trace ended", x.figure(5), 0);
        for (int r = 0; r < 3; r++) {
            check.due("WHITE then", x.object(x.root(r), 3), 0);
        }
        check.due("gone as WHITE", x.figure(7), 0);
    }

    /** Root 0 holds an object whose field 0 holds another, at a pause with which a trace begins. */
    private static LineCollector pairInATrace() {
        LineCollector x = new LineCollector();
        x.allocate(0, 2, 1);
        x.allocate(1, 2, 2);
        x.store(0, 0, 1);
        x.drop(1);
        x.pause(true);
        return x;
    }

    private static void theLogTurnsWhiteOnesGrey(Check check) {
        LineCollector x = pairInATrace();
        int held = x.load(1, 0, 0);
        check.due("WHITE", x.object(held, 3), 0);
        x.store(0, 0, 5);
        x.trace(1);
        check.due("none GREY", x.figure(8), 0);
        x.pause(false);
        check.due("GREY by the log", x.object(held, 3), 1);
        check.due("the trace goes on", x.figure(5), 1);
        x.trace(1);
        x.pause(false);
        check.due("it ended", x.figure(5), 0);
        check.due("objects", x.figure(0), 2);
        LineCollector y = pairInATrace();
        y.trace(9);
        y.pause(false);
        y.store(0, 0, 5);
        y.pause(false);
        check.due("not without a trace", y.figure(8), 0);
    }

    private static void rootsThatAreDroppedTurnNothingGrey(Check check) {
        LineCollector x = pairInATrace();
        int held = x.load(1, 0, 0);
        x.pause(false);
        x.drop(1);
        x.pause(false);
        check.due("decrements of both roots", x.figure(2), 2);
        check.due("WHITE", x.object(held, 3), 0);
        check.due("one is GREY", x.figure(8), 1);
    }

    private static void aTraceBegins(Check check) {
        LineCollector x = new LineCollector();
        x.allocate(0, 2, 1);
        x.allocate(1, 1, 2);
        x.store(0, 0, 1);
        x.drop(1);
        x.copy(4, 0);
        x.pause(false);
        check.due("none", x.figure(5), 0);
        check.due("WHITE", x.object(x.root(0), 3), 0);
        x.pause(true);
        check.due("one", x.figure(5), 1);
        check.due("GREY, once for two roots", x.figure(8), 1);
        check.due("the root's", x.object(x.root(0), 3), 1);
        check.due("not what its field holds", x.object(x.field(x.root(0), 0), 3), 0);
        LineCollector y = new LineCollector();
        y.pause(true);
        check.due("a trace of nothing", y.trace(5), 0);
        y.pause(false);
        check.due("ended", y.figure(5), 0);
    }

    private static void aTraceThatRunsGoesOn(Check check) {
        LineCollector x = pairInATrace();
        x.trace(1);
        int held = x.field(x.root(0), 0);
        check.due("GREY", x.object(held, 3), 1);
        x.pause(true);
        check.due("BLACK stays", x.object(x.root(0), 3), 2);
        check.due("GREY stays", x.object(held, 3), 1);
        x.load(1, 0, 0);
        x.pause(false);
        check.due("it runs", x.figure(5), 1);
        check.due("BLACK still", x.object(x.root(0), 3), 2);
    }

    private static void oneEndsAndOneBegins(Check check) {
        LineCollector x = pairInATrace();
        x.trace(9);
        x.pause(true);
        check.due("a new one runs", x.figure(5), 1);
        check.due("the root's is GREY", x.object(x.root(0), 3), 1);
        check.due("the other WHITE", x.object(x.field(x.root(0), 0), 3), 0);
    }

    private static void holeAndOverflowAreNone(Check check) {
        LineCollector x = new LineCollector();
        x.allocate(0, 1, 1);
        x.allocate(1, 12, 2);
        x.allocate(2, 12, 3);
        x.allocate(3, 12, 4);
        check.due("hole", x.line(7), 2);
        check.due("overflow", x.line(15), 2);
        x.pause(false);
        int used = 0;
        for (int l = 0; l < 32; l++) {
            check.due("free or used: line " + l, x.line(l) == 2 ? 1 : 0, 0);
            used += x.line(l);
        }
        check.due("lines used", used, 10);
        check.due("from line 0 on", x.allocate(4, 1, 5), 0);
    }
}
