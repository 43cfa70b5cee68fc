/** Promise 2: allocate. */
public final class AllocateTest {
    private static final Class<? extends Exception> ILLEGAL = IllegalArgumentException.class;

    public static void main(String[] args) {
        Check check = new Check();
        aNewObjectIsYoungAndEmpty(check);
        theHoleGoesToTheEndOfItsBlock(check);
        theRestOfAHoleIsLost(check);
        largeOnesGoIntoTheHoleIfTheyFit(check);
        largeOnesFillWholeBlocks(check);
        aHoleEndsAtAUsedLine(check);
        theSearchGoesRound(check);
        aFullHeapIsCollected(check);
        aCollectionEndsARunningTrace(check);
        noPlaceThenEither(check);
        wrongInputs(check);
        check.end();
    }

    private static void aNewObjectIsYoungAndEmpty(Check check) {
        LineCollector x = new LineCollector();
        check.due("first", x.allocate(0, 3, Integer.MIN_VALUE), 0);
        check.due("second", x.allocate(5, 12, 7), 3);
        check.due("root 0", x.root(0), 0);
        check.due("root 5", x.root(5), 3);
        check.due("root 1", x.root(1), -1);
        check.due("size", x.object(3, 0), 12);
        check.due("tag", x.object(0, 1), Integer.MIN_VALUE);
        check.due("count", x.object(0, 2), 0);
        check.due("colour", x.object(0, 3), 0);
        check.due("young", x.figure(1), 2);
        for (int i = 0; i < 12; i++) {
            check.due("field " + i, x.field(3, i), -1);
        }
        check.due("again in root 0", x.allocate(0, 1, 1), 15);
        check.due("what nothing holds is there until the pause", x.figure(0), 3);
    }

    private static void theHoleGoesToTheEndOfItsBlock(Check check) {
        LineCollector x = new LineCollector();
        for (int k = 0; k < 32; k++) {
            check.due("of 4 cells, number " + k, x.allocate(0, 4, k), 4 * k);
            check.due("used", x.line(k), 1);
            if (k % 8 != 7) {
                check.due("of the hole", x.line(k / 8 * 8 + 7), 2);
            }
            if (k < 24) {
                check.due("of the next block", x.line(k / 8 * 8 + 8), 0);
            }
        }
        check.due("no collection", x.figure(4), 0);
    }

    private static void theRestOfAHoleIsLost(Check check) {
        LineCollector x = new LineCollector();
        for (int k = 0; k < 7; k++) {
            x.allocate(0, 4, k);
        }
        check.due("1 cell", x.allocate(0, 1, 7), 28);
        check.due("4 cells where 3 are left", x.allocate(0, 4, 8), 32);
        check.due("3 cells go behind these", x.allocate(0, 3, 9), 36);
    }

    private static void largeOnesGoIntoTheHoleIfTheyFit(Check check) {
        LineCollector x = new LineCollector();
        check.due("small", x.allocate(0, 1, 0), 0);
        check.due("12 into the hole", x.allocate(0, 12, 1), 1);
        check.due("12 more", x.allocate(0, 12, 2), 13);
        check.due("8 where 7 are left", x.allocate(0, 8, 3), 32);
        check.due("exactly 7", x.allocate(0, 7, 4), 25);
        check.due("12 into the overflow", x.allocate(0, 12, 5), 40);
        check.due("line of the overflow", x.line(15), 2);
        check.due("small not into the overflow", x.allocate(0, 1, 6), 64);
        check.due("5 into the new hole", x.allocate(0, 5, 7), 65);
    }

    private static void largeOnesFillWholeBlocks(Check check) {
        LineCollector x = new LineCollector();
        int[] due = {0, 12, 32, 44, 64, 76, 96, 108};
        for (int k = 0; k < due.length; k++) {
            check.due("12 cells, number " + k, x.allocate(1, 12, k), due[k]);
        }
        check.due("no more of the overflow", x.line(6), 0);
        check.due("of the overflow", x.line(30), 2);
        check.due("exactly the rest", x.allocate(1, 8, 8), 120);
        check.due("what an overflow left behind", x.allocate(1, 4, 9), 24);
        check.due("and the next line", x.line(7), 2);
        check.due("8 where 4 are left, and no free block: collected", x.allocate(1, 8, 10), 0);
        check.due("pauses", x.figure(4), 2);
        check.due("what lived on was moved to line 7 and from there to line 8", x.object(32, 1), 9);
        check.due("moves", x.figure(6), 2);
    }

    private static void aHoleEndsAtAUsedLine(Check check) {
        LineCollector x = new LineCollector();
        x.allocate(0, 4, 1);
        x.pause(false);
        check.due("moved", x.root(0), 4);
        check.due("line 0 alone", x.allocate(1, 2, 2), 0);
        check.due("line 2 is not of this hole", x.line(2), 0);
        check.due("3 where 2 are left", x.allocate(1, 3, 3), 8);
        check.due("line 7 is of the hole", x.line(7), 2);
    }

    private static void theSearchGoesRound(Check check) {
        LineCollector x = new LineCollector();
        x.allocate(0, 4, 1);
        x.pause(false);
        x.drop(0);
        x.pause(false);
        check.due("line 0", x.allocate(1, 4, 2), 0);
        for (int l = 2; l < 32; l++) {
            check.due("line " + l, x.allocate(1, 4, l), 4 * l);
        }
        check.due("all drained", x.drain(1), 0);
        check.due("line 1 is free", x.line(1), 0);
        check.due("the search goes on at line 0", x.allocate(1, 4, 99), 4);
        check.due("no collection", x.figure(4), 2);
    }

    private static void aFullHeapIsCollected(Check check) {
        LineCollector x = new LineCollector();
        for (int k = 0; k < 32; k++) {
            x.allocate(0, 4, k);
        }
        check.due("behind what lived on", x.allocate(0, 4, 32), 4);
        check.due("the old one lies in line 0", x.object(0, 1), 31);
        check.due("its count", x.object(0, 2), 1);
        check.due("objects", x.figure(0), 2);
        check.due("young", x.figure(1), 1);
        check.due("decrements", x.figure(2), 0);
        check.due("pauses", x.figure(4), 2);
        check.due("no trace", x.figure(5), 0);
        check.due("moves", x.figure(6), 1);
        check.due("gone as WHITE", x.figure(7), 0);
        check.due("pause", x.pause(false), 1);
        check.due("decrement of what root 0 held", x.figure(2), 1);
        check.due("drained", x.drain(1), 0);
        check.due("objects then", x.figure(0), 1);
    }

    private static void aCollectionEndsARunningTrace(Check check) {
        LineCollector x = new LineCollector();
        x.allocate(0, 4, 1);
        x.allocate(1, 4, 2);
        x.store(0, 0, 1);
        x.store(1, 0, 0);
        x.pause(true);
        x.drop(0);
        x.drop(1);
        check.due("GREY", x.figure(8), 2);
        for (int k = 0; k < 30; k++) {
            x.allocate(2, 4, 100 + k);
        }
        check.due("no collection yet", x.figure(4), 1);
        x.allocate(3, 4, 3);
        check.due("pauses", x.figure(4), 3);
        check.due("no trace", x.figure(5), 0);
        check.due("what was reached when the trace began stays", x.figure(0), 4);
        check.due("gone as WHITE", x.figure(7), 0);
    }

    private static void noPlaceThenEither(Check check) {
        LineCollector x = new LineCollector();
        x.allocate(0, 12, 0);
        for (int i = 1; i < 8; i++) {
            x.allocate(1, 12, i);
            x.store(0, i, 1);
        }
        check.throwsDue("allocate", UnsupportedOperationException.class, () -> x.allocate(1, 12, 99));
        check.due("the root holds what it held", x.root(1), 108);
        check.due("pauses", x.figure(4), 2);
        check.due("objects", x.figure(0), 8);
        check.due("young", x.figure(1), 0);
        check.due("decrements", x.figure(2), 0);
        check.due("count of what root 0 holds", x.object(0, 2), 1);
        check.due("a count of 3 stays", x.object(108, 2), 3);
        check.throwsDue("wrong root first", ILLEGAL, () -> x.allocate(6, 12, 99));
        check.throwsDue("wrong size first", ILLEGAL, () -> x.allocate(0, 13, 99));
        check.due("no collection for these", x.figure(4), 2);
        check.throwsDue("5 cells", UnsupportedOperationException.class, () -> x.allocate(2, 5, 99));
        check.due("root 2", x.root(2), -1);
        check.due("pauses then", x.figure(4), 4);
        check.due("4 cells", x.allocate(2, 4, 5), 24);
    }

    private static void wrongInputs(Check check) {
        LineCollector x = new LineCollector();
        int[][] wrong = {{-1, 1}, {6, 1}, {0, 0}, {0, 13}, {0, -1}, {Integer.MIN_VALUE, 1},
            {Integer.MAX_VALUE, 1}, {0, Integer.MIN_VALUE}, {0, Integer.MAX_VALUE}, {7, 14}};
        for (int[] w : wrong) {
            check.throwsDue("allocate " + w[0] + " " + w[1], ILLEGAL, () -> x.allocate(w[0], w[1], 0));
        }
        check.due("nothing changed", x.figure(0), 0);
        check.due("no hole", x.line(0), 0);
    }
}
