/** Terms: to collect, and what allocate() does with it, at the edges of these sentences. */
public final class CollectEdgesTest {
    public static void main(String[] args) {
        Check check = new Check();
        aPlaceThatIsThereNeedsNoCollection(check);
        twoPausesOfWhichOneEndsTheTrace(check);
        theRootHoldsWhatItHeldUntilThen(check);
        circlesAreFound(check);
        aRunningTraceGoesOn(check);
        aRunningTraceWithoutGreyOnesEndsFirst(check);
        allDecrementsAreDrained(check);
        aClearedBlockHasThePlace(check);
        noPlaceForALargeOneBesideOneForASmallOne(check);
        noPlaceInAFullHeap(check);
        whatTheCollectionDidStays(check);
        aRefusedCallDoesNotCollect(check);
        aCollectionAtEveryCall(check);
        check.end();
    }

    /** Fills lines with young objects, of which root 5 holds the last one. */
    private static void fill(LineCollector x, int lines) {
        for (int k = 0; k < lines; k++) {
            x.allocate(5, 4, 500 + k);
        }
    }

    /** "if there is none, memory is collected" */
    private static void aPlaceThatIsThereNeedsNoCollection(Check check) {
        LineCollector x = new LineCollector();
        fill(x, 31);
        check.due("the last line", x.allocate(0, 4, 1), 124);
        check.due("no pause", x.figure(4), 0);
        check.due("one more", x.allocate(0, 4, 2) >= 0, true);
        check.due("pauses", x.figure(4), 2);
    }

    /** "a pause with which a trace is to begin; steps, as long as an object is GREY; a pause with which none is" */
    private static void twoPausesOfWhichOneEndsTheTrace(Check check) {
        LineCollector x = new LineCollector();
        fill(x, 32);
        x.copy(0, 5);
        check.due("place", x.allocate(1, 4, 1), 4);
        check.due("figures", State.figures(x), "2 1 0 0 2 0 1 0 0");
        check.due("roots 0 and 5 hold the one at 0, moved by the clearing", State.roots(x), "0 4 -1 -1 -1 0");
        check.due("count of two roots and two decrements, drained", x.object(0, 2), 3);
    }

    /** The collection is before "a root holds a new young object". */
    private static void theRootHoldsWhatItHeldUntilThen(Check check) {
        LineCollector x = new LineCollector();
        fill(x, 32);
        check.due("behind what it held", x.allocate(5, 4, 1), 4);
        check.due("which is there", x.object(0, 1), 531);
        check.due("its count", x.object(0, 2), 1);
        x.pause(false);
        check.due("decrement of what it held at the end of the pause before", x.drain(1), 0);
        check.due("gone", x.figure(0), 1);
    }

    private static void circlesAreFound(Check check) {
        LineCollector x = Layout.keep(4, true, 0, 4, 8, 12, 16, 20, 24, 28, 32, 36, 40, 44, 64, 68, 72, 76, 96, 100,
            104, 108);
        x.drop(0);
        x.pause(false);
        x.drain(9);
        check.due("old circles", x.figure(0), 20);
        fill(x, 12);
        x.drop(5);
        check.due("no free line", State.lines(x), "11111111 11111111 11111111 11111111");
        check.due("place", x.allocate(0, 12, 1), 0);
        check.due("gone as WHITE", x.figure(7), 20);
        check.due("objects", x.figure(0), 1);
    }

    /** 16 old circles, four in each block, which root 0 holds by the last one; a trace has begun. */
    private static LineCollector halfFullInATrace() {
        LineCollector x = Layout.keep(4, true, 0, 4, 8, 12, 32, 36, 40, 44, 64, 68, 72, 76, 96, 100, 104, 108);
        x.pause(true);
        return x;
    }

    /** "with which a trace is to begin": one that runs goes on, and has reached what is lost since it began */
    private static void aRunningTraceGoesOn(Check check) {
        LineCollector x = halfFullInATrace();
        x.drop(0);
        check.throwsDue("12 cells", UnsupportedOperationException.class, () -> x.allocate(1, 12, 1));
        check.due("pauses", x.figure(4), 4);
        check.due("all are there", x.figure(0), 16);
        check.due("none gone as WHITE", x.figure(7), 0);
        check.due("no trace runs", x.figure(5), 0);
        check.due("the next collection finds them", x.allocate(1, 12, 1), 0);
        check.due("gone as WHITE", x.figure(7), 16);
    }

    private static void aRunningTraceWithoutGreyOnesEndsFirst(Check check) {
        LineCollector x = halfFullInATrace();
        check.due("no GREY one", x.trace(200), 0);
        x.drop(0);
        check.due("place", x.allocate(1, 12, 1), 0);
        check.due("pauses", x.figure(4), 4);
        check.due("found by the second trace", x.figure(7), 16);
    }

    /** "and all decrements are drained, as in 1" */
    private static void allDecrementsAreDrained(Check check) {
        LineCollector x = new LineCollector();
        x.allocate(0, 1, 1);
        x.allocate(1, 1, 2);
        x.store(1, 0, 0);
        x.allocate(0, 1, 3);
        x.store(0, 0, 1);
        x.copy(1, 0);
        x.copy(2, 0);
        x.pause(true);
        for (int r = 0; r < 3; r++) {
            x.drop(r);
        }
        x.pause(false);
        x.drain(9);
        check.due("a count of 3 that nothing holds, and two behind it", x.figure(0), 3);
        fill(x, 31);
        check.due("no collection yet", x.figure(4), 2);
        x.allocate(0, 4, 4);
        check.due("collected", x.figure(4), 4);
        check.due("no decrement waits", x.figure(2), 0);
        check.due("the three are gone, one after the other", x.figure(0), 2);
        check.due("none as a WHITE one", x.figure(7), 0);
    }

    /** "and a place is looked for once more" */
    private static void aClearedBlockHasThePlace(Check check) {
        LineCollector x = Layout.keepLines(3, 8, 9, 10, 11, 16, 17, 18, 19, 24, 25, 26, 27);
        check.due("no block is free", x.allocate(1, 12, 1), 0);
        check.due("collected", x.figure(4), 3);
        check.due("what was in line 3 is in line 12", x.object(48, 1), 12);
        check.due("moves", x.figure(6), 1);
    }

    private static void noPlaceForALargeOneBesideOneForASmallOne(Check check) {
        LineCollector x = Layout.keepLines(0, 1, 2, 3, 8, 9, 10, 11, 16, 17, 18, 19, 24, 25, 26, 27);
        check.throwsDue("5 cells", UnsupportedOperationException.class, () -> x.allocate(1, 5, 1));
        check.due("pauses", x.figure(4), 3);
        check.due("4 cells", x.allocate(1, 4, 1), 16);
        check.due("5 cells into its hole", x.allocate(1, 5, 1), 20);
        check.due("no pause more", x.figure(4), 3);
    }

    /** "UnsupportedOperationException: there is no place then, either (the root holds what it held ...)" */
    private static void noPlaceInAFullHeap(Check check) {
        int[] lines = new int[32];
        for (int l = 0; l < 32; l++) {
            lines[l] = l;
        }
        LineCollector x = Layout.keepLines(lines);
        check.throwsDue("1 cell", UnsupportedOperationException.class, () -> x.allocate(0, 1, 1));
        check.due("root 0", x.root(0), 124);
        check.throwsDue("1 cell again", UnsupportedOperationException.class, () -> x.allocate(5, 1, 1));
        check.due("roots", State.roots(x), "124 -1 -1 -1 -1 -1");
        check.due("figures", State.figures(x), "32 0 0 0 5 0 0 0 0");
        x.drop(0);
        check.due("what nothing holds any more is collected", x.allocate(5, 1, 1), 0);
        check.due("objects", x.figure(0), 1);
    }

    /** "(... what the collection did stays)" */
    private static void whatTheCollectionDidStays(Check check) {
        LineCollector x = Layout.keepLines(0, 1, 2, 3, 8, 9, 10, 11, 16, 17, 18, 19, 24, 25, 26, 27);
        x.allocate(1, 4, 1);
        check.due("11 cells are left of the hole", x.allocate(2, 1, 2), 20);
        x.drop(2);
        x.store(0, 1, 1);
        check.due("young, and in the log", x.figure(1) * 10 + x.figure(3), 21);
        check.throwsDue("12 cells", UnsupportedOperationException.class, () -> x.allocate(1, 12, 3));
        check.due("one is old, the other gone", x.figure(1) * 100 + x.figure(0), 17);
        check.due("the log is empty", x.figure(3), 0);
        check.due("a root, a field and, at the second pause, a decrement: 3 stays", x.object(x.root(1), 2), 3);
        check.due("the hole is none", State.lines(x).indexOf('2'), -1);
        check.due("pauses", x.figure(4), 3);
    }

    /** "A call that throws changes nothing, but for allocate() when it has collected." */
    private static void aRefusedCallDoesNotCollect(Check check) {
        LineCollector x = new LineCollector();
        fill(x, 32);
        check.throwsDue("root 6", IllegalArgumentException.class, () -> x.allocate(6, 4, 1));
        check.throwsDue("root -1", IllegalArgumentException.class, () -> x.allocate(-1, 4, 1));
        check.throwsDue("size 0", IllegalArgumentException.class, () -> x.allocate(0, 0, 1));
        check.throwsDue("size 13", IllegalArgumentException.class, () -> x.allocate(0, 13, 1));
        check.due("figures", State.figures(x), "32 32 0 0 0 0 0 0 0");
    }

    /** As many collections as 512 calls can bring. */
    private static void aCollectionAtEveryCall(Check check) {
        int[] lines = new int[32];
        for (int l = 0; l < 32; l++) {
            lines[l] = l;
        }
        LineCollector x = Layout.keepLines(lines);
        int calls = 32 * 3 + 2;
        int refused = 0;
        for (; calls < 510; calls++) {
            refused += Check.answerOf(() -> x.allocate(1, 1, 1)).endsWith("UnsupportedOperationException") ? 1 : 0;
        }
        check.due("refused", refused, 412);
        check.due("pauses", x.figure(4), 825);
        check.due("objects", x.figure(0), 32);
    }
}
