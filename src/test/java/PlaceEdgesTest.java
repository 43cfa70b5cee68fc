/** Terms: the heap and its places, at their edges; each method is one sentence of the document. */
public final class PlaceEdgesTest {
    public static void main(String[] args) {
        Check check = new Check();
        theHeapEndsWithCell127(check);
        noObjectGoesOverTheEndOfABlock(check);
        holeAndOverflowAreNoneAtFirst(check);
        aHoleIsFilledToItsLastCell(check);
        oneCellMoreThanTheHoleHas(check);
        fourCellsOpenAHoleFiveDoNot(check);
        theSearchBeginsAtTheEndOfTheHole(check);
        withNoHoleTheSearchBeginsAtLine0(check);
        line0ComesBehindLine31(check);
        theSearchGoesRoundToTheHoleItself(check);
        aHoleEndsBeforeTheFirstLineThatIsNotFree(check);
        aHoleEndsWithItsBlock(check);
        linesOfTheOverflowAreNotFree(check);
        anOverflowIsFilledToItsLastCell(check);
        oneCellMoreThanTheOverflowHas(check);
        oneUsedLineKeepsABlockFromBecomingTheOverflow(check);
        withoutAPlaceTheHoleStays(check);
        withoutAPlaceTheOverflowStays(check);
        withoutAPlaceTheRestOfTheHoleStays(check);
        aLineIsUsedAsLongAsOneCellIs(check);
        check.end();
    }

    /** "THE HEAP has 4 BLOCKS of 8 LINES of 4 CELLS" */
    private static void theHeapEndsWithCell127(Check check) {
        LineCollector x = new LineCollector();
        for (int k = 0; k < 128; k++) {
            check.due("1 cell, number " + k, x.allocate(0, 1, k), k);
        }
        check.due("all lines are used", State.lines(x), "11111111 11111111 11111111 11111111");
        check.due("no collection yet", x.figure(4), 0);
        check.due("the last cell", x.object(127, 1), 127);
        x.allocate(1, 1, 128);
        check.due("cell 128 is not there: collected", x.figure(4), 2);
    }

    /** "An OBJECT of SIZE n, 1 .. 12, has n cells of one block, one behind the other" */
    private static void noObjectGoesOverTheEndOfABlock(Check check) {
        LineCollector x = new LineCollector();
        x.allocate(0, 12, 1);
        x.allocate(0, 12, 2);
        check.due("12 where block 0 has 8 and block 1 all", x.allocate(0, 12, 3), 32);
        LineCollector y = new LineCollector();
        for (int k = 0; k < 7; k++) {
            y.allocate(0, 4, k);
        }
        y.allocate(0, 2, 7);
        check.due("3 where block 0 has 2 and block 1 all", y.allocate(0, 3, 8), 32);
    }

    /** "THE HOLE and THE OVERFLOW are rows of lines of a block, at first none" */
    private static void holeAndOverflowAreNoneAtFirst(Check check) {
        LineCollector x = new LineCollector();
        check.due("all lines are free", State.lines(x), "00000000 00000000 00000000 00000000");
        check.due("5 cells are no place in a hole", x.allocate(0, 5, 1), 0);
        check.due("1 cell is none in the overflow", x.allocate(0, 1, 2), 32);
        LineCollector y = new LineCollector();
        check.due("4 cells open a hole", y.allocate(0, 4, 1), 0);
        check.due("5 go into it", y.allocate(0, 5, 2), 4);
    }

    /** "each with a CURSOR, which is a cell of them or their end"; "if the hole has n cells from its cursor on" */
    private static void aHoleIsFilledToItsLastCell(Check check) {
        LineCollector x = new LineCollector();
        x.allocate(0, 1, 1);
        x.allocate(0, 12, 2);
        x.allocate(0, 12, 3);
        check.due("7 where 7 are left", x.allocate(0, 7, 4), 25);
        check.due("the hole is full", State.lines(x), "11111111 00000000 00000000 00000000");
        check.due("1 where none is left", x.allocate(0, 1, 5), 32);
        check.due("a new hole", State.lines(x), "11111111 12222222 00000000 00000000");
    }

    private static void oneCellMoreThanTheHoleHas(Check check) {
        LineCollector x = new LineCollector();
        x.allocate(0, 1, 1);
        x.allocate(0, 12, 2);
        x.allocate(0, 12, 3);
        check.due("8 where 7 are left", x.allocate(0, 8, 4), 32);
        check.due("the hole is as it was", State.lines(x), "11111112 11222222 00000000 00000000");
        check.due("4 go on in it", x.allocate(0, 4, 5), 25);
        check.due("3 fill it", x.allocate(0, 3, 6), 29);
    }

    /** "for n up to 4: the first free line"; "for n above 4: ... the first block all lines of which are free" */
    private static void fourCellsOpenAHoleFiveDoNot(Check check) {
        for (int n = 1; n <= 12; n++) {
            LineCollector x = new LineCollector();
            x.allocate(0, 4, 1);
            x.pause(false);
            check.due("the old one is in line 1", x.root(0), 4);
            check.due(n + " cells", x.allocate(1, n, 2), n <= 4 ? 0 : 32);
        }
    }

    /** "the first free line from the end of the hole on" */
    private static void theSearchBeginsAtTheEndOfTheHole(Check check) {
        LineCollector x = new LineCollector();
        x.allocate(0, 4, 1);
        x.pause(false);
        x.drop(0);
        x.pause(false);
        check.due("line 0, for line 1 is used", x.allocate(1, 4, 2), 0);
        check.due("line 2", x.allocate(1, 4, 3), 8);
        check.due("drained", x.drain(1), 0);
        check.due("line 1 is free", State.lines(x), "10122222 00000000 00000000 00000000");
        for (int l = 3; l < 8; l++) {
            x.allocate(1, 4, l);
        }
        check.due("line 8, not line 1", x.allocate(1, 4, 8), 32);
    }

    /** "(from line 0 on if there is none ...)" */
    private static void withNoHoleTheSearchBeginsAtLine0(Check check) {
        LineCollector x = new LineCollector();
        for (int k = 0; k < 20; k++) {
            x.allocate(0, 4, k);
        }
        check.due("the hole was in block 2", x.root(0), 76);
        x.drop(0);
        x.pause(false);
        check.due("line 0", x.allocate(0, 4, 20), 0);
    }

    /** "(... line 0 comes behind line 31)" */
    private static void line0ComesBehindLine31(Check check) {
        LineCollector x = onlyLine0();
        x.drop(0);
        x.pause(false);
        for (int l = 1; l < 32; l++) {
            check.due("line " + l, x.allocate(1, 4, l), 4 * l);
        }
        x.drain(1);
        check.due("line 0 is free", State.lines(x), "01111111 11111111 11111111 11111111");
        check.due("line 0", x.allocate(1, 2, 99), 0);
        check.due("the hole has one line", x.allocate(1, 2, 100), 2);
        check.due("no collection", x.figure(4), 2);
    }

    /** An old object in line 0, where it was when it was young, for there was no free line. */
    private static LineCollector onlyLine0() {
        LineCollector x = new LineCollector();
        x.allocate(0, 4, 0);
        for (int l = 1; l < 32; l++) {
            x.allocate(1, 4, l);
        }
        x.drop(1);
        x.pause(false);
        return x;
    }

    /** All 32 lines are looked at, the last one being the one before the end of the hole. */
    private static void theSearchGoesRoundToTheHoleItself(Check check) {
        LineCollector x = onlyLine0();
        check.due("stays", x.root(0), 0);
        for (int l = 1; l < 32; l++) {
            x.allocate(1, 4, l);
        }
        check.due("none left: collected", x.allocate(1, 4, 99) >= 0 ? x.figure(4) : -1, 3);
        LineCollector y = new LineCollector();
        y.allocate(0, 4, 1);
        y.pause(false);
        y.drop(0);
        y.pause(false);
        y.allocate(1, 4, 2);
        for (int l = 2; l < 32; l++) {
            y.allocate(1, 4, l);
        }
        y.drain(1);
        check.due("line 1, behind the hole's end at line 31, round by line 0", y.allocate(1, 4, 3), 4);
        check.due("no collection", y.figure(4), 2);
    }

    /** "with all free lines behind it up to the first other one" */
    private static void aHoleEndsBeforeTheFirstLineThatIsNotFree(Check check) {
        LineCollector x = new LineCollector();
        for (int r = 0; r < 3; r++) {
            x.allocate(r, 4, r);
        }
        x.drop(0);
        x.drop(1);
        x.pause(false);
        check.due("line 3", x.root(2), 12);
        check.due("line 0", x.allocate(0, 1, 3), 0);
        check.due("lines 0, 1 and 2", State.lines(x), "12210000 00000000 00000000 00000000");
        check.due("11 cells fill it", x.allocate(1, 11, 4), 1);
        check.due("line 4", x.allocate(1, 1, 5), 16);
        check.due("to the end of the block", State.lines(x), "11111222 00000000 00000000 00000000");
    }

    /** "or the end of its block" */
    private static void aHoleEndsWithItsBlock(Check check) {
        LineCollector x = new LineCollector();
        x.allocate(0, 12, 1);
        x.allocate(1, 8, 2);
        x.allocate(2, 8, 3);
        x.pause(false);
        check.due("line 15 is left of block 1", State.lines(x), "00000000 11111110 00000000 00000000");
        for (int k = 0; k < 8; k++) {
            x.allocate(3, 4, k);
        }
        check.due("line 15", x.allocate(3, 1, 9), 60);
        check.due("line 15 alone", State.lines(x), "11111111 11111111 00000000 00000000");
        check.due("3 cells are left", x.allocate(3, 4, 10), 64);
    }

    /** "A line is FREE if it is not used and belongs to neither of both." */
    private static void linesOfTheOverflowAreNotFree(Check check) {
        LineCollector x = new LineCollector();
        check.due("overflow", x.allocate(0, 5, 1), 0);
        check.due("lines 2 to 7 are not used, nor free", x.allocate(0, 4, 2), 32);
        check.due("both", State.lines(x), "11222222 12222222 00000000 00000000");
        for (int k = 0; k < 23; k++) {
            x.allocate(0, 4, k);
        }
        check.due("all of blocks 1 to 3 is used", x.root(0), 124);
        check.due("the overflow's lines are still no place for 1", State.lines(x),
            "11222222 11111111 11111111 11111111");
        x.allocate(0, 1, 3);
        check.due("collected", x.figure(4), 2);
    }

    /** "if the overflow has n cells from its cursor on, they are the place, likewise" */
    private static void anOverflowIsFilledToItsLastCell(Check check) {
        LineCollector x = new LineCollector();
        x.allocate(0, 12, 1);
        x.allocate(0, 12, 2);
        check.due("8 where 8 are left", x.allocate(0, 8, 3), 24);
        check.due("full", State.lines(x), "11111111 00000000 00000000 00000000");
        check.due("5 where none is left", x.allocate(0, 5, 4), 32);
    }

    private static void oneCellMoreThanTheOverflowHas(Check check) {
        LineCollector x = new LineCollector();
        x.allocate(0, 12, 1);
        x.allocate(0, 12, 2);
        check.due("9 where 8 are left", x.allocate(0, 9, 3), 32);
        check.due("what is left is free", State.lines(x), "11111100 11122222 00000000 00000000");
        check.due("8 go on in the new one", x.allocate(0, 8, 4), 41);
        check.due("1 takes what was left", x.allocate(0, 1, 5), 24);
    }

    /** "otherwise the first block all lines of which are free becomes the overflow" */
    private static void oneUsedLineKeepsABlockFromBecomingTheOverflow(Check check) {
        LineCollector x = onlyLine0();
        check.due("block 0 has its first line used", x.allocate(1, 5, 1), 32);
        LineCollector y = new LineCollector();
        for (int l = 0; l < 32; l++) {
            y.allocate(l == 7 ? 0 : 1, 4, l);
        }
        y.drop(1);
        y.pause(false);
        check.due("only line 7 is used", State.lines(y), "00000001 00000000 00000000 00000000");
        check.due("block 0 has its last line used", y.allocate(1, 5, 1), 32);
        y.drop(0);
        y.pause(false);
        y.drain(1);
        check.due("block 0 is free", y.allocate(2, 5, 2), 0);
    }

    /** "If there is no such line or block, there is no place, and nothing changes." */
    private static void withoutAPlaceTheHoleStays(Check check) {
        LineCollector x = new LineCollector();
        for (int k = 0; k < 8; k++) {
            x.allocate(1, 12, k);
        }
        check.due("young in line 6", x.allocate(0, 1, 8), 24);
        check.due("young in line 6, too", x.allocate(2, 1, 9), 25);
        check.due("three live on", x.pause(false), 3);
        check.due("root 0 opens the hole of line 7", x.root(0), 28);
        check.due("root 1 has no place", x.root(1), 108);
        check.due("root 2 goes on in the hole", x.root(2), 29);
        check.due("moves", x.figure(6), 2);
    }

    private static void withoutAPlaceTheOverflowStays(Check check) {
        LineCollector x = new LineCollector();
        int[] root = {0, 1, 2, 4, 4, 4};
        for (int k = 0; k < 6; k++) {
            x.allocate(root[k], 12, k);
        }
        check.due("8 fill block 2", x.allocate(3, 8, 6), 88);
        x.drop(4);
        x.pause(false);
        check.due("root 0 opens the overflow of block 3", x.root(0), 96);
        check.due("root 1", x.root(1), 108);
        check.due("root 2 has no place", x.root(2), 32);
        check.due("root 3 fills the overflow", x.root(3), 120);
    }

    private static void withoutAPlaceTheRestOfTheHoleStays(Check check) {
        LineCollector x = new LineCollector();
        x.allocate(0, 2, 0);
        x.allocate(1, 3, 1);
        x.allocate(2, 2, 2);
        x.allocate(5, 12, 3);
        x.allocate(5, 12, 4);
        check.due("block 0 is full", x.allocate(5, 1, 5), 31);
        for (int l = 8; l < 31; l++) {
            x.allocate(5, 4, l);
        }
        x.drop(5);
        x.pause(false);
        check.due("root 0 opens the hole of line 31", x.root(0), 124);
        check.due("root 1 has no place", x.root(1), 2);
        check.due("root 2 fills the hole", x.root(2), 126);
        check.due("moves", x.figure(6), 2);
    }

    /** "A line is USED if a cell of it belongs to an object" */
    private static void aLineIsUsedAsLongAsOneCellIs(Check check) {
        LineCollector x = new LineCollector();
        x.allocate(0, 3, 0);
        x.allocate(1, 6, 1);
        x.allocate(2, 3, 2);
        x.pause(false);
        check.due("roots", State.roots(x), "12 15 21 -1 -1 -1");
        check.due("lines 3, 4 and 5", State.lines(x), "00011100 00000000 00000000 00000000");
        x.drop(1);
        x.pause(false);
        x.drain(2);
        check.due("one is gone", x.figure(0), 2);
        check.due("line 4 was its own", State.lines(x), "00010100 00000000 00000000 00000000");
        x.drop(2);
        x.drop(0);
        x.pause(false);
        check.due("decrements", x.figure(2), 2);
        x.drain(1);
        check.due("line 3", State.lines(x), "00000100 00000000 00000000 00000000");
        x.drain(1);
        check.due("line 5", State.lines(x), "00000000 00000000 00000000 00000000");
    }
}
