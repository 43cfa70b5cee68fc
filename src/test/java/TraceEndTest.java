import java.util.NoSuchElementException;

/** Promise 9: the pause at which a trace ends, and the block that is cleared then. */
public final class TraceEndTest {
    public static void main(String[] args) {
        Check check = new Check();
        circlesAreGone(check);
        whatWhiteOnesHeldIsCountedDown(check);
        countsOfThreeAreCountedAnew(check);
        aCountOfNoneIsGone(check);
        goneOnesAreCountedWithTheirDecrements(check);
        theSparsestBlockIsCleared(check);
        theFirstOfSeveralIsCleared(check);
        fourLinesAreTooMany(check);
        largeOnesNeedAFreeBlock(check);
        holdersHoldOn(check);
        check.end();
    }

    private static void endTrace(LineCollector x) {
        x.trace(200);
        x.pause(false);
    }

    private static void circlesAreGone(Check check) {
        LineCollector x = new LineCollector();
        x.allocate(0, 2, 1);
        x.allocate(1, 2, 2);
        x.store(0, 0, 1);
        x.store(1, 0, 0);
        x.store(1, 1, 1);
        x.allocate(2, 1, 3);
        x.pause(false);
        x.drop(0);
        x.drop(1);
        x.pause(true);
        x.drain(9);
        check.due("counts do not find them", x.figure(0), 3);
        check.due("no GREY left", x.trace(9), 0);
        x.pause(false);
        check.due("one is left", x.figure(0), 1);
        check.due("gone as WHITE", x.figure(7), 2);
        check.due("no trace", x.figure(5), 0);
        check.due("no decrements of what is gone", x.figure(2), 1);
        x.pause(true);
        endTrace(x);
        check.due("gone as WHITE, in all", x.figure(7), 2);
    }

    private static void whatWhiteOnesHeldIsCountedDown(Check check) {
        LineCollector x = new LineCollector();
        x.allocate(0, 3, 1);
        x.allocate(1, 1, 2);
        x.allocate(2, 1, 3);
        x.store(0, 0, 0);
        x.store(0, 1, 2);
        x.store(0, 2, 1);
        x.pause(false);
        check.due("count of 2", x.object(x.root(1), 2), 2);
        x.drop(0);
        x.pause(true);
        x.drain(9);
        endTrace(x);
        check.due("gone as WHITE", x.figure(7), 1);
        check.due("roots 1 and 2, fields 1 and 2", x.figure(2), 4);
        check.due("count of root 1's, 1 root more", x.object(x.root(1), 2), 3);
        x.drain(9);
        x.pause(true);
        endTrace(x);
        x.drain(9);
        check.due("counted anew at the next end", x.object(x.root(1), 2), 1);
        check.due("and root 2's", x.object(x.root(2), 2), 1);
    }

    private static void countsOfThreeAreCountedAnew(Check check) {
        LineCollector x = new LineCollector();
        x.allocate(0, 1, 1);
        x.copy(1, 0);
        x.copy(2, 0);
        x.pause(false);
        x.drop(1);
        x.drop(2);
        x.pause(true);
        check.due("stuck", x.drain(9), 0);
        check.due("count", x.object(x.root(0), 2), 3);
        endTrace(x);
        check.due("a root and a decrement", x.object(x.root(0), 2), 2);
        x.drain(9);
        check.due("a root", x.object(x.root(0), 2), 1);
        x.copy(1, 0);
        x.copy(2, 0);
        x.copy(3, 0);
        x.pause(true);
        endTrace(x);
        check.due("3 at most", x.object(x.root(0), 2), 3);
    }

    /** Three roots hold an object, which holds another, when a trace begins; then none holds it. */
    private static LineCollector stuckAndBlack() {
        LineCollector x = new LineCollector();
        x.allocate(0, 2, 1);
        x.allocate(1, 1, 2);
        x.store(0, 0, 1);
        x.copy(1, 0);
        x.copy(2, 0);
        x.pause(true);
        x.drop(0);
        x.drop(1);
        x.drop(2);
        x.pause(false);
        x.drain(9);
        return x;
    }

    private static void aCountOfNoneIsGone(Check check) {
        LineCollector x = stuckAndBlack();
        check.due("both there", x.figure(0), 2);
        endTrace(x);
        check.due("one gone", x.figure(0), 1);
        check.due("not as a WHITE one", x.figure(7), 0);
        check.due("a decrement comes", x.figure(2), 1);
        check.due("drained", x.drain(1), 0);
        check.due("both gone", x.figure(0), 0);
    }

    private static void goneOnesAreCountedWithTheirDecrements(Check check) {
        LineCollector x = new LineCollector();
        x.allocate(0, 4, 1);
        x.allocate(1, 1, 2);
        x.store(0, 0, 1);
        x.store(0, 1, 1);
        x.store(0, 3, 1);
        x.drop(1);
        x.copy(1, 0);
        x.copy(2, 0);
        x.pause(true);
        for (int r = 0; r < 3; r++) {
            x.drop(r);
        }
        x.pause(false);
        x.drain(9);
        endTrace(x);
        check.due("its three decrements wait", x.figure(2), 3);
        check.due("and are its count", x.object(32, 2), 3);
        check.due("stuck for now", x.drain(9), 0);
        check.due("objects", x.figure(0), 1);
        x.pause(true);
        endTrace(x);
        check.due("found by the next trace", x.figure(7), 1);
    }

    private static void theSparsestBlockIsCleared(Check check) {
        LineCollector x = new LineCollector();
        check.due("overflow", x.allocate(0, 12, 1), 0);
        check.due("hole", x.allocate(1, 1, 2), 32);
        x.pause(true);
        check.due("a free block", x.root(0), 64);
        check.due("a free line", x.root(1), 12);
        endTrace(x);
        check.due("block 2 with 3 used lines stays", x.root(0), 64);
        check.due("block 0 with 1 is cleared", x.root(1), 32);
        check.due("moves", x.figure(6), 3);
        check.due("line left", x.line(3), 0);
        x.pause(false);
        check.due("no clearing without an end", x.root(1), 32);
    }

    private static void theFirstOfSeveralIsCleared(Check check) {
        LineCollector x = new LineCollector();
        x.allocate(0, 12, 1);
        for (int r = 1; r <= 3; r++) {
            x.allocate(r, 4, r);
        }
        x.pause(true);
        check.due("3 lines of block 2", x.root(0), 64);
        check.due("3 lines of block 0", x.root(1), 12);
        endTrace(x);
        check.due("block 2 stays", x.root(0), 64);
        for (int r = 1; r <= 3; r++) {
            check.due("block 0 is cleared, root " + r, x.root(r), 28 + 4 * r);
        }
    }

    private static void fourLinesAreTooMany(Check check) {
        LineCollector x = new LineCollector();
        x.allocate(0, 4, 1);
        x.allocate(1, 4, 2);
        x.allocate(2, 4, 3);
        x.allocate(3, 4, 4);
        x.pause(true);
        endTrace(x);
        for (int r = 0; r < 4; r++) {
            check.due("stays, root " + r, x.root(r), 16 + 4 * r);
        }
        x.drop(3);
        x.pause(true);
        endTrace(x);
        for (int r = 0; r < 3; r++) {
            check.due("cleared with 3 lines, root " + r, x.root(r), 32 + 4 * r);
        }
        check.due("their block is free", x.line(4) + x.line(5) + x.line(6) + x.line(7), 0);
    }

    private static void largeOnesNeedAFreeBlock(Check check) {
        LineCollector x = new LineCollector();
        int[] due = {0, 12, 32, 44, 64, 76};
        for (int r = 0; r < 6; r++) {
            check.due("young", x.allocate(r, 12, r), due[r]);
        }
        x.pause(true);
        check.due("block 3 takes two", x.root(0), 96);
        check.due("block 3 took the second", x.root(1), 108);
        check.due("no place for the third", x.root(2), 32);
        check.due("nor for the last", x.root(5), 76);
        x.drop(0);
        x.pause(false);
        x.drain(9);
        endTrace(x);
        check.due("block 3 has 3 used lines, and goes to block 0", x.root(1), 0);
        check.due("the others stay", x.root(2), 32);
        x.allocate(0, 1, 9);
        check.due("behind it", x.root(0), 12);
    }

    private static void holdersHoldOn(Check check) {
        LineCollector x = new LineCollector();
        x.allocate(0, 2, 1);
        x.allocate(1, 2, 2);
        x.store(0, 1, 1);
        x.store(1, 0, 0);
        x.copy(5, 1);
        x.pause(true);
        int before = x.root(0);
        endTrace(x);
        check.due("cleared", x.root(0), 32);
        check.throwsDue("not where it was", NoSuchElementException.class, () -> x.object(before, 0));
        check.due("field", x.field(32, 1), 34);
        check.due("field back", x.field(34, 0), 32);
        check.due("roots 1 and 5", x.root(1) + x.root(5), 68);
        check.due("decrements wait", x.figure(2), 3);
        check.due("drained", x.drain(9), 0);
        check.due("count of what moved", x.object(32, 2), 3);
    }
}
