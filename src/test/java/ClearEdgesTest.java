/** Terms: the block that is cleared in step 4 of a pause, at the edges of its sentence. */
public final class ClearEdgesTest {
    public static void main(String[] args) {
        Check check = new Check();
        blocksWithoutUsedLinesAreNot(check);
        oneLineIsFewAndFourAreMany(check);
        theFewestWhereverTheyAre(check);
        ofSeveralTheFirst(check);
        onlyOneBlock(check);
        twoObjectsInALineAreOneLine(check);
        linesOfWhiteOnesDoNotCount(check);
        linesOfOnesCountedTo0DoNotCount(check);
        linesMovedFromInStep2DoNotCount(check);
        withoutAFreeLineNothingMoves(check);
        oneFreeLineTakesOne(check);
        noLineOfThisBlockIsFree(check);
        byRisingAddresses(check);
        oneWithoutAPlaceStaysAndTheNextGoes(check);
        aLargeOneGoesIntoTheHoleOfASmallOne(check);
        theHoleIsNoneAtFirst(check);
        theOverflowIsNoneAtFirst(check);
        theHoleIsNoneThen(check);
        aTraceThatBeginsThenSeesWhatWasMoved(check);
        check.end();
    }

    private static void cleared(Check check, LineCollector x, int moves, String lines) {
        int before = x.figure(6);
        Layout.traceAll(x);
        check.due("moves", x.figure(6) - before, moves);
        check.due("lines", State.lines(x), lines);
    }

    /** "of all blocks with 1, 2 or 3 used lines ..., if there is any" */
    private static void blocksWithoutUsedLinesAreNot(Check check) {
        cleared(check, new LineCollector(), 0, "00000000 00000000 00000000 00000000");
        cleared(check, Layout.keepLines(8, 9, 10), 3, "11100000 00000000 00000000 00000000");
    }

    private static void oneLineIsFewAndFourAreMany(Check check) {
        cleared(check, Layout.keepLines(4), 1, "00000000 10000000 00000000 00000000");
        cleared(check, Layout.keepLines(4, 6), 2, "00000000 11000000 00000000 00000000");
        cleared(check, Layout.keepLines(1, 4, 6), 3, "00000000 11100000 00000000 00000000");
        cleared(check, Layout.keepLines(1, 2, 4, 6), 0, "01101010 00000000 00000000 00000000");
        cleared(check, Layout.keepLines(0, 1, 2, 3, 4, 5, 6, 7), 0, "11111111 00000000 00000000 00000000");
    }

    /** "the one with the fewest" */
    private static void theFewestWhereverTheyAre(Check check) {
        cleared(check, Layout.keepLines(0, 1, 8, 9, 10), 2, "00000000 11111000 00000000 00000000");
        cleared(check, Layout.keepLines(0, 1, 2, 8, 9), 2, "11111000 00000000 00000000 00000000");
        cleared(check, Layout.keepLines(0, 1, 2, 8, 9, 31), 1, "11110000 11000000 00000000 00000000");
    }

    /** "of several the first one" */
    private static void ofSeveralTheFirst(Check check) {
        cleared(check, Layout.keepLines(0, 1, 8, 9), 2, "00000000 11110000 00000000 00000000");
        cleared(check, Layout.keepLines(0, 1, 15, 31), 1, "11100000 00000000 00000000 00000001");
        cleared(check, Layout.keepLines(0, 8, 16, 24), 1, "00000000 11000000 10000000 10000000");
    }

    /** "... is CLEARED": one at each end of a trace */
    private static void onlyOneBlock(Check check) {
        LineCollector x = Layout.keepLines(0, 1, 2, 8, 9, 10, 16, 17, 18);
        cleared(check, x, 3, "00000000 11111100 11100000 00000000");
        cleared(check, x, 3, "11100000 11111100 00000000 00000000");
        cleared(check, x, 3, "00000000 11111111 10000000 00000000");
    }

    private static void twoObjectsInALineAreOneLine(Check check) {
        LineCollector x = Layout.keep(2, false, 0, 2, 4, 6, 8, 10, 32, 36, 40, 44);
        check.due("six objects in three lines, four in four", State.lines(x), "11100000 11110000 00000000 00000000");
        cleared(check, x, 6, "00000000 11111110 00000000 00000000");
    }

    private static void linesOfWhiteOnesDoNotCount(Check check) {
        LineCollector x = Layout.keep(4, true, 0, 4, 8, 12, 16, 32, 36);
        x.load(1, 0, 0);
        x.load(1, 1, 0);
        check.due("the one at 16", x.root(1), 16);
        x.store(1, 0, 5);
        x.drop(1);
        cleared(check, x, 1, "00000000 11100000 00000000 00000000");
        check.due("gone as WHITE", x.figure(7), 4);
    }

    private static void linesOfOnesCountedTo0DoNotCount(Check check) {
        LineCollector x = Layout.keepLines(0, 8, 9);
        x.load(1, 0, 0);
        x.load(2, 1, 0);
        x.copy(3, 2);
        x.copy(4, 2);
        x.store(1, 0, 5);
        x.drop(1);
        x.pause(true);
        check.due("count", x.object(0, 2), 3);
        for (int r = 2; r < 5; r++) {
            x.drop(r);
        }
        x.pause(false);
        x.drain(9);
        Layout.endTrace(x);
        check.due("one is gone", x.figure(0), 2);
        check.due("not as a WHITE one", x.figure(7), 0);
        check.due("block 0 had no used line", State.lines(x), "11000000 00000000 00000000 00000000");
    }

    /** "or did until that was moved in this step": step 2 is another one. */
    private static void linesMovedFromInStep2DoNotCount(Check check) {
        LineCollector x = new LineCollector();
        x.allocate(0, 12, 0);
        x.pause(true);
        check.due("block 1 has 3 used lines", x.root(0), 32);
        x.trace(1);
        x.allocate(1, 4, 1);
        x.allocate(2, 4, 2);
        x.pause(false);
        check.due("block 0 had 2, and is cleared", State.roots(x), "32 44 48 -1 -1 -1");
        check.due("moves", x.figure(6), 5);
    }

    /** "is moved to the place for its size, if there is one" */
    private static void withoutAFreeLineNothingMoves(Check check) {
        cleared(check, Layout.keepLines(linesAnd(32, 0, 1, 2)), 0, "11100000 11111111 11111111 11111111");
    }

    private static void oneFreeLineTakesOne(Check check) {
        LineCollector x = Layout.keepLines(linesAnd(31, 0, 1, 2));
        cleared(check, x, 1, "01100000 11111111 11111111 11111111");
        check.due("the one with the least address", x.object(124, 1), 0);
    }

    /** Some lines of block 0, and all from line 8 on up to an end. */
    private static int[] linesAnd(int end, int... first) {
        int[] lines = java.util.Arrays.copyOf(first, first.length + end - 8);
        for (int l = 8; l < end; l++) {
            lines[first.length + l - 8] = l;
        }
        return lines;
    }

    /** "and no line of this block is free" */
    private static void noLineOfThisBlockIsFree(Check check) {
        cleared(check, Layout.keepLines(7), 1, "00000000 10000000 00000000 00000000");
        LineCollector x = new LineCollector();
        x.allocate(0, 12, 0);
        x.pause(true);
        check.due("block 1", x.root(0), 32);
        Layout.endTrace(x);
        check.due("large: block 0, not behind itself", x.root(0), 0);
        Layout.traceAll(x);
        check.due("and block 1 again", x.root(0), 32);
    }

    /** "each object in it, by rising addresses" */
    private static void byRisingAddresses(Check check) {
        LineCollector x = new LineCollector();
        x.allocate(0, 4, 0);
        x.allocate(1, 4, 1);
        x.pause(true);
        check.due("roots", State.roots(x), "8 12 -1 -1 -1 -1");
        x.copy(2, 0);
        x.copy(0, 1);
        x.copy(1, 2);
        x.drop(2);
        Layout.endTrace(x);
        check.due("the lower one first", State.roots(x), "36 32 -1 -1 -1 -1");
    }

    /** Old: a large one and a small one in block 0, in the lines 1 to 3, and the first half of each other block. */
    private static LineCollector largeAndSmall(boolean largeFirst) {
        LineCollector x = new LineCollector();
        x.allocate(5, 4, 0);
        x.allocate(largeFirst ? 0 : 1, largeFirst ? 8 : 4, 1);
        x.allocate(largeFirst ? 1 : 0, largeFirst ? 4 : 8, 2);
        int held = 0;
        for (int l = 4; l < 32; l++) {
            x.allocate(2, 4, l);
            if (l >= 8 && l % 8 < 4) {
                x.store(held < 8 ? 0 : 1, held % 8, 2);
                held++;
            }
        }
        x.drop(2);
        x.drop(5);
        x.pause(false);
        return x;
    }

    private static void oneWithoutAPlaceStaysAndTheNextGoes(Check check) {
        LineCollector x = largeAndSmall(true);
        check.due("before", State.lines(x), "01110000 11110000 11110000 11110000");
        cleared(check, x, 1, "01100000 11111000 11110000 11110000");
        check.due("the large one stays, the small one goes", State.roots(x), "4 48 -1 -1 -1 -1");
    }

    /** "If the hole has n cells from its cursor on, they are the place", also for a large one */
    private static void aLargeOneGoesIntoTheHoleOfASmallOne(Check check) {
        LineCollector x = largeAndSmall(false);
        check.due("before", State.lines(x), "01110000 11110000 11110000 11110000");
        cleared(check, x, 2, "00000000 11111110 11110000 11110000");
        check.due("one behind the other", State.roots(x), "52 48 -1 -1 -1 -1");
    }

    /** "while hole and overflow are none at first" */
    private static void theHoleIsNoneAtFirst(Check check) {
        LineCollector x = new LineCollector();
        for (int r = 0; r < 5; r++) {
            x.allocate(r, 4, r);
        }
        x.pause(true);
        check.due("lines 5 to 9", State.roots(x), "20 24 28 32 36 -1");
        x.trace(9);
        check.due("line 0, and gone in step 3", x.allocate(5, 4, 5), 0);
        check.due("line 1", x.allocate(5, 4, 6), 4);
        x.pause(false);
        check.due("root 5's to line 2 in step 2; then block 1 to lines 0 and 1", State.roots(x), "20 24 28 0 4 8");
        check.due("moves", x.figure(6), 8);
    }

    private static void theOverflowIsNoneAtFirst(Check check) {
        LineCollector x = new LineCollector();
        x.allocate(0, 12, 0);
        x.pause(true);
        x.trace(1);
        check.due("block 0", x.allocate(1, 12, 1), 0);
        x.pause(false);
        check.due("root 1's to block 2 in step 2; then root 0's not behind it, but to block 0",
            State.roots(x), "0 64 -1 -1 -1 -1");
    }

    /** "6. Hole and overflow are none." */
    private static void theHoleIsNoneThen(Check check) {
        LineCollector x = Layout.keepLines(1, 2);
        cleared(check, x, 2, "00000000 11000000 00000000 00000000");
        check.due("line 0", x.allocate(1, 4, 99), 0);
    }

    /** "5. If a trace is to begin and none runs" */
    private static void aTraceThatBeginsThenSeesWhatWasMoved(Check check) {
        LineCollector x = Layout.keepLines(1, 2);
        x.pause(true);
        x.trace(9);
        x.pause(true);
        check.due("root 0's in line 9", x.root(0), 36);
        check.due("a new trace runs", x.figure(5), 1);
        check.due("GREY", x.object(36, 3), 1);
        check.due("WHITE", x.object(32, 3), 0);
    }
}
