import java.util.NoSuchElementException;

/** Terms: the steps 1, 2, 3, 5 and 6 of a pause, at their edges; step 4 is in TraceEndEdgesTest. */
public final class PauseEdgesTest {
    public static void main(String[] args) {
        Check check = new Check();
        aPauseOfNothing(check);
        decrementsThatComeMeanwhileAreDrainedToo(check);
        holeAndOverflowOfTheCallsBeforeAreNone(check);
        aYoungObjectThatOnlyItselfHolds(check);
        aYoungObjectThatOnlyAGoneOneHolds(check);
        aYoungObjectInSeveralSlots(check);
        anOldObjectsCountGoesTo3AtMost(check);
        aFieldInTheLogIsASlotOnce(check);
        fieldsThatAreNotInTheLogAreNoSlots(check);
        rootsComeBeforeTheLog(check);
        fieldsComeBehindTheSlots(check);
        linesMovedFromAreUsedToTheEndOfTheStep(check);
        linesOfWhatIsGoneAreUsedInThisStep(check);
        oneWithoutAPlaceStaysAndBecomesOld(check);
        theFirstPauseHasNoneBeforeIt(check);
        rootsAreThoseAtTheEndOfThePauseBefore(check);
        rootsThatHeldNoneGiveNoDecrement(check);
        theLogsOnesBecomeGreyOnlyIfATraceRuns(check);
        theLogsOnesThatAreBlackStayBlack(check);
        aTraceThatBeginsTurnsNothingBlack(check);
        aTraceBeginsWithRootsThatHoldTheSame(check);
        aTraceThatRunsDoesNotBeginAgain(check);
        holeAndOverflowOfThePauseAreNone(check);
        manyPauses(check);
        check.end();
    }

    private static void aPauseOfNothing(Check check) {
        LineCollector x = new LineCollector();
        check.due("first", x.pause(false), 0);
        check.due("second", x.pause(false), 0);
        check.due("figures", State.figures(x), "0 0 0 0 2 0 0 0 0");
        check.due("lines", State.lines(x), "00000000 00000000 00000000 00000000");
    }

    /** "1. All decrements are drained, also those that come meanwhile." */
    private static void decrementsThatComeMeanwhileAreDrainedToo(Check check) {
        LineCollector x = new LineCollector();
        for (int k = 0; k < 128; k++) {
            x.allocate(1, 1, k);
            x.store(1, 0, 0);
            x.copy(0, 1);
        }
        x.drop(1);
        x.pause(false);
        x.drop(0);
        x.pause(false);
        check.due("one waits", x.figure(2), 1);
        check.due("all are there", x.figure(0), 128);
        x.pause(false);
        check.due("one after the other is gone", x.figure(0), 0);
        check.due("none waits", x.figure(2), 0);
    }

    /** "1. ... Hole and overflow are none." */
    private static void holeAndOverflowOfTheCallsBeforeAreNone(Check check) {
        LineCollector x = new LineCollector();
        x.allocate(0, 5, 0);
        x.allocate(1, 1, 1);
        check.due("overflow in block 0, hole in block 1", State.lines(x), "11222222 12222222 00000000 00000000");
        x.pause(false);
        check.due("not into the overflow: block 0 is not free", x.root(0), 64);
        check.due("not into the hole: line 2 comes first", x.root(1), 8);
    }

    /** "3. All objects that are young still are gone." */
    private static void aYoungObjectThatOnlyItselfHolds(Check check) {
        LineCollector x = new LineCollector();
        x.allocate(0, 2, 1);
        x.store(0, 0, 0);
        x.store(0, 1, 0);
        x.drop(0);
        check.due("none became old", x.pause(false), 0);
        check.due("gone", x.figure(0), 0);
        check.due("no decrement", x.figure(2), 0);
    }

    private static void aYoungObjectThatOnlyAGoneOneHolds(Check check) {
        LineCollector x = new LineCollector();
        x.allocate(0, 1, 1);
        x.allocate(1, 1, 2);
        x.store(0, 0, 1);
        x.drop(0);
        x.drop(1);
        check.due("none became old", x.pause(false), 0);
        check.due("both gone", x.figure(0), 0);
        check.due("not as WHITE ones", x.figure(7), 0);
    }

    /** "if x is old, its count becomes 1 more"; "If x is young, it is old from now on, with the count 1" */
    private static void aYoungObjectInSeveralSlots(Check check) {
        for (int n = 1; n <= 6; n++) {
            LineCollector x = new LineCollector();
            x.allocate(0, 1, 1);
            for (int r = 1; r < n; r++) {
                x.copy(r, 0);
            }
            check.due("one became old, once", x.pause(false), 1);
            check.due("count of " + n + " roots", x.object(4, 2), Math.min(n, 3));
            check.due("moved once", x.figure(6), 1);
        }
    }

    /** "but at most 3" */
    private static void anOldObjectsCountGoesTo3AtMost(Check check) {
        LineCollector x = new LineCollector();
        x.allocate(0, 4, 1);
        x.pause(false);
        for (int i = 0; i < 4; i++) {
            x.store(0, i, 0);
        }
        x.pause(false);
        check.due("1 and a root and 4 fields", x.object(4, 2), 3);
        x.drain(9);
        check.due("3 stays", x.object(4, 2), 3);
        LineCollector y = new LineCollector();
        y.allocate(0, 1, 1);
        y.pause(false);
        y.pause(false);
        check.due("1 and a root", y.object(4, 2), 2);
        y.drop(0);
        y.pause(false);
        check.due("drained, and no root", y.object(4, 2), 1);
    }

    private static void aFieldInTheLogIsASlotOnce(Check check) {
        LineCollector x = new LineCollector();
        x.allocate(0, 1, 1);
        x.pause(false);
        x.allocate(1, 1, 2);
        x.store(0, 0, 1);
        x.store(0, 0, 5);
        x.store(0, 0, 1);
        x.drop(1);
        check.due("one became old", x.pause(false), 1);
        check.due("count", x.object(x.field(4, 0), 2), 1);
    }

    private static void fieldsThatAreNotInTheLogAreNoSlots(Check check) {
        LineCollector x = new LineCollector();
        x.allocate(0, 1, 1);
        x.allocate(1, 1, 2);
        x.store(0, 0, 1);
        x.drop(1);
        x.pause(false);
        x.pause(false);
        x.pause(false);
        check.due("the field counted once, when its object became old", x.object(5, 2), 1);
    }

    /** "the roots, in order, then the fields in the log, in its order" */
    private static void rootsComeBeforeTheLog(Check check) {
        LineCollector x = new LineCollector();
        x.allocate(0, 2, 0);
        x.pause(false);
        x.allocate(1, 1, 1);
        x.store(0, 1, 1);
        x.allocate(2, 1, 2);
        x.store(0, 0, 2);
        x.allocate(5, 1, 5);
        x.allocate(3, 1, 3);
        x.drop(1);
        x.drop(2);
        x.pause(false);
        check.due("root 3, root 5", State.roots(x), "4 -1 -1 8 -1 9");
        check.due("field 1 came first into the log", x.field(4, 1), 10);
        check.due("field 0 came second", x.field(4, 0), 11);
    }

    /** "and its fields come behind the slots, in order" */
    private static void fieldsComeBehindTheSlots(Check check) {
        LineCollector x = new LineCollector();
        x.allocate(0, 2, 0);
        x.allocate(1, 1, 1);
        x.store(0, 1, 1);
        x.allocate(1, 1, 2);
        x.store(0, 0, 1);
        x.allocate(1, 1, 3);
        x.pause(false);
        check.due("root 0, root 1", State.roots(x), "8 10 -1 -1 -1 -1");
        check.due("field 0", x.field(8, 0), 11);
        check.due("field 1", x.field(8, 1), 12);
        check.due("the one that was stored into field 1", x.object(12, 1), 1);
    }

    /** "or did until that was moved in this step of a pause" */
    private static void linesMovedFromAreUsedToTheEndOfTheStep(Check check) {
        LineCollector x = new LineCollector();
        x.allocate(0, 4, 0);
        x.allocate(1, 4, 1);
        for (int l = 2; l < 31; l++) {
            x.allocate(2, 4, l);
        }
        x.drop(2);
        x.pause(false);
        check.due("root 0 has line 31, root 1 none, though line 0 is left", State.roots(x), "124 4 -1 -1 -1 -1");
        check.due("line 0 is free then", State.lines(x), "01000000 00000000 00000000 00000001");
        check.due("moves", x.figure(6), 1);
    }

    private static void linesOfWhatIsGoneAreUsedInThisStep(Check check) {
        LineCollector x = new LineCollector();
        x.allocate(0, 4, 0);
        x.allocate(0, 4, 1);
        x.pause(false);
        check.due("line 2, for line 0 is used until step 3", x.root(0), 8);
    }

    /** "then it is moved to the place for its size, if there is one" */
    private static void oneWithoutAPlaceStaysAndBecomesOld(Check check) {
        LineCollector x = new LineCollector();
        for (int l = 0; l < 32; l++) {
            x.allocate(0, 4, l);
        }
        check.due("became old", x.pause(false), 1);
        check.due("stays", x.root(0), 124);
        check.due("count", x.object(124, 2), 1);
        check.due("moves", x.figure(6), 0);
        check.due("young", x.figure(1), 0);
    }

    /** "a decrement of the object that it held at the end of the pause before" */
    private static void theFirstPauseHasNoneBeforeIt(Check check) {
        LineCollector x = new LineCollector();
        x.allocate(0, 1, 1);
        x.pause(false);
        check.due("no decrement", x.figure(2), 0);
        x.pause(false);
        check.due("one at the second", x.figure(2), 1);
    }

    private static void rootsAreThoseAtTheEndOfThePauseBefore(Check check) {
        LineCollector x = new LineCollector();
        x.allocate(0, 1, 1);
        x.allocate(1, 1, 2);
        x.pause(false);
        x.copy(0, 1);
        x.copy(0, 3);
        x.copy(2, 1);
        x.pause(false);
        check.due("of roots 0 and 1, not of what they held between", x.figure(2), 2);
        x.drain(1);
        check.throwsDue("what root 0 held is gone", NoSuchElementException.class, () -> x.object(4, 0));
        x.drain(1);
        check.due("roots 1 and 2", x.object(5, 2), 3);
    }

    private static void rootsThatHeldNoneGiveNoDecrement(Check check) {
        LineCollector x = new LineCollector();
        x.allocate(5, 1, 1);
        x.pause(false);
        x.drop(5);
        x.pause(false);
        check.due("root 5 alone", x.figure(2), 1);
        x.pause(false);
        check.due("all held NONE", x.figure(2), 0);
    }

    /** Root 0's object at 4 holds the one at 5 in its field 0 at a pause, behind which NONE is stored there. */
    private static LineCollector overwritten(boolean begins) {
        LineCollector x = new LineCollector();
        x.allocate(0, 1, 1);
        x.allocate(1, 1, 2);
        x.store(0, 0, 1);
        x.drop(1);
        x.pause(begins);
        x.store(0, 0, 5);
        return x;
    }

    /** "If a trace runs, all these of the log that are WHITE become GREY." */
    private static void theLogsOnesBecomeGreyOnlyIfATraceRuns(Check check) {
        LineCollector x = overwritten(true);
        x.pause(false);
        check.due("GREY", x.object(5, 3), 1);
        LineCollector y = overwritten(false);
        y.pause(false);
        check.due("WHITE", y.object(5, 3), 0);
        LineCollector z = overwritten(false);
        z.pause(true);
        check.due("WHITE, for the trace begins in step 5", z.object(5, 3), 0);
        check.due("root 0's is GREY", z.object(4, 3), 1);
    }

    private static void theLogsOnesThatAreBlackStayBlack(Check check) {
        LineCollector x = new LineCollector();
        x.allocate(0, 1, 1);
        x.allocate(1, 1, 2);
        x.allocate(2, 1, 3);
        x.store(0, 0, 1);
        x.pause(false);
        check.due("roots", State.roots(x), "4 5 6 -1 -1 -1");
        x.drop(1);
        x.pause(true);
        check.due("the ones at 4 and at 5 become BLACK", x.trace(2), 1);
        x.store(0, 0, 5);
        x.pause(false);
        check.due("the trace goes on", x.figure(5), 1);
        check.due("BLACK", x.object(5, 3), 2);
        check.due("the one at 6 alone is GREY", x.figure(8), 1);
    }

    /** "BLACK if a trace runs, otherwise WHITE": the trace that this pause begins does not run yet. */
    private static void aTraceThatBeginsTurnsNothingBlack(Check check) {
        LineCollector x = new LineCollector();
        x.allocate(0, 1, 1);
        x.allocate(1, 1, 2);
        x.store(0, 0, 1);
        x.drop(1);
        x.pause(true);
        check.due("root 0's is GREY", x.object(4, 3), 1);
        check.due("what it holds is WHITE", x.object(5, 3), 0);
    }

    /** "5. ... all objects that roots hold become GREY" */
    private static void aTraceBeginsWithRootsThatHoldTheSame(Check check) {
        LineCollector x = new LineCollector();
        x.allocate(0, 1, 1);
        for (int r = 1; r < 5; r++) {
            x.copy(r, 0);
        }
        x.allocate(5, 1, 2);
        x.pause(true);
        check.due("two objects", x.figure(8), 2);
        check.due("root 0's", x.object(4, 3), 1);
        check.due("root 5's", x.object(5, 3), 1);
    }

    /** "(if none runs; one that runs goes on)" */
    private static void aTraceThatRunsDoesNotBeginAgain(Check check) {
        LineCollector x = new LineCollector();
        x.allocate(0, 1, 1);
        x.allocate(1, 1, 2);
        x.store(0, 0, 1);
        x.drop(1);
        x.pause(true);
        x.load(1, 0, 0);
        x.pause(true);
        check.due("root 1's is WHITE: no trace began", x.object(5, 3), 0);
        check.due("root 0's alone is GREY", x.figure(8), 1);
    }

    /** "6. Hole and overflow are none." */
    private static void holeAndOverflowOfThePauseAreNone(Check check) {
        LineCollector x = new LineCollector();
        x.allocate(0, 5, 0);
        x.allocate(1, 1, 1);
        x.pause(false);
        check.due("no line of them", State.lines(x), "00100000 00000000 11000000 00000000");
        check.due("line 0, not behind root 1's", x.allocate(2, 1, 2), 0);
        check.due("block 1, not behind root 0's", x.allocate(3, 12, 3), 32);
    }

    /** "An object is used for at most 512 calls": here all of them are pauses. */
    private static void manyPauses(Check check) {
        LineCollector x = new LineCollector();
        x.allocate(0, 12, 1);
        for (int k = 2; k <= 509; k++) {
            x.pause(k % 2 == 0);
        }
        check.due("pauses", x.figure(4), 508);
        check.due("count", x.object(x.root(0), 2), 2);
    }
}
