import java.util.NoSuchElementException;

/** Terms: decrements and draining, at their edges; each method is one part of these sentences. */
public final class DecrementEdgesTest {
    public static void main(String[] args) {
        Check check = new Check();
        anEmptyRowHasNothingToDrain(check);
        noneOfThemIsDrainedBy0(check);
        asManyAsWaitAndOneMore(check);
        countsOf1And2And3(check);
        anObjectWithoutHoldingAnyAddsNothing(check);
        oneThatIsHeldTwiceComesTwice(check);
        oneThatHoldsItselfStays(check);
        theyComeBehindThoseThatWait(check);
        whatAWhiteOneHeldStaysWhite(check);
        whatAGreyOneHeldAndIsBlackStaysBlack(check);
        theRowGoesRound(check);
        thoseThatHaveLeftTheRowDoNotCount(check);
        aFullRow(check);
        moreThanTheLogHasAtOnce(check);
        theyAreOfTheObjectWhereverItIsMoved(check);
        check.end();
    }

    private static void gone(Check check, LineCollector x, int address) {
        check.throwsDue("gone at " + address, NoSuchElementException.class, () -> x.object(address, 0));
    }

    /** "Drains up to n decrements" */
    private static void anEmptyRowHasNothingToDrain(Check check) {
        LineCollector x = new LineCollector();
        check.due("a new one", x.drain(0), 0);
        check.due("a new one, one", x.drain(1), 0);
        check.due("a new one, all", x.drain(Integer.MAX_VALUE), 0);
        x.allocate(0, 1, 1);
        x.pause(false);
        check.due("the first pause brings none", x.drain(1), 0);
        check.due("count", x.object(4, 2), 1);
    }

    private static LineCollector threeOld() {
        LineCollector x = new LineCollector();
        for (int r = 0; r < 3; r++) {
            x.allocate(r, 1, r);
        }
        x.pause(false);
        x.pause(false);
        return x;
    }

    private static void noneOfThemIsDrainedBy0(Check check) {
        LineCollector x = threeOld();
        check.due("three wait", x.drain(0), 3);
        check.due("count", x.object(4, 2), 2);
    }

    private static void asManyAsWaitAndOneMore(Check check) {
        LineCollector x = threeOld();
        check.due("one less than wait", x.drain(2), 1);
        check.due("the last one's count", x.object(6, 2), 2);
        check.due("just as many as wait", x.drain(1), 0);
        check.due("the last one's count then", x.object(6, 2), 1);
        LineCollector y = threeOld();
        check.due("one more than wait", y.drain(4), 0);
        check.due("objects", y.figure(0), 3);
    }

    /** "the count of its object becomes 1 less, unless it is 3; if it is 0 then, the object is gone" */
    private static void countsOf1And2And3(Check check) {
        LineCollector x = new LineCollector();
        x.allocate(0, 1, 1);
        x.allocate(1, 1, 2);
        x.copy(2, 1);
        x.allocate(3, 1, 3);
        x.copy(4, 3);
        x.copy(5, 3);
        x.pause(false);
        check.due("counts", x.object(4, 2) * 100 + x.object(5, 2) * 10 + x.object(6, 2), 123);
        for (int r = 0; r < 6; r++) {
            x.drop(r);
        }
        x.pause(false);
        check.due("1 becomes 0", x.drain(1), 5);
        gone(check, x, 4);
        check.due("2 becomes 1", x.drain(1), 4);
        check.due("count", x.object(5, 2), 1);
        check.due("1 becomes 0, too", x.drain(1), 3);
        gone(check, x, 5);
        check.due("3 stays, three times", x.drain(3), 0);
        check.due("count of 3", x.object(6, 2), 3);
    }

    /** "for each of its fields, in order, that holds an object a decrement" */
    private static void anObjectWithoutHoldingAnyAddsNothing(Check check) {
        LineCollector x = new LineCollector();
        x.allocate(0, 12, 1);
        x.pause(false);
        x.drop(0);
        x.pause(false);
        check.due("twelve fields hold NONE", x.drain(1), 0);
        check.due("objects", x.figure(0), 0);
    }

    private static void oneThatIsHeldTwiceComesTwice(Check check) {
        LineCollector x = new LineCollector();
        x.allocate(0, 12, 1);
        x.allocate(1, 1, 2);
        x.store(0, 0, 1);
        x.store(0, 11, 1);
        x.drop(1);
        x.pause(false);
        int held = x.field(x.root(0), 0);
        check.due("count", x.object(held, 2), 2);
        x.drop(0);
        x.pause(false);
        check.due("the holder is gone", x.drain(1), 2);
        check.due("first field", x.drain(1), 1);
        check.due("count then", x.object(held, 2), 1);
        check.due("last field", x.drain(1), 0);
        gone(check, x, held);
    }

    private static void oneThatHoldsItselfStays(Check check) {
        LineCollector x = new LineCollector();
        x.allocate(0, 2, 1);
        x.store(0, 1, 0);
        x.pause(false);
        x.drop(0);
        x.pause(false);
        check.due("drained", x.drain(9), 0);
        check.due("its own field counts", x.object(4, 2), 1);
    }

    /** "comes behind the row" */
    private static void theyComeBehindThoseThatWait(Check check) {
        LineCollector x = new LineCollector();
        x.allocate(0, 1, 1);
        x.allocate(1, 1, 2);
        x.allocate(2, 1, 3);
        x.store(0, 0, 1);
        x.drop(1);
        x.pause(false);
        check.due("roots", State.roots(x), "4 -1 5 -1 -1 -1");
        x.drop(0);
        x.drop(2);
        x.pause(false);
        check.due("two wait", x.figure(2), 2);
        check.due("the first one's field comes", x.drain(1), 2);
        check.due("the second one", x.drain(1), 1);
        gone(check, x, 5);
        check.due("what the first one held", x.object(6, 1), 2);
        check.due("the third one", x.drain(1), 0);
        gone(check, x, 6);
    }

    /** "and if it was GREY": here it is WHITE, for nothing held it when the trace began */
    private static void whatAWhiteOneHeldStaysWhite(Check check) {
        LineCollector x = new LineCollector();
        x.allocate(0, 1, 1);
        x.allocate(1, 1, 2);
        x.store(0, 0, 1);
        x.drop(1);
        x.pause(false);
        x.drop(0);
        x.pause(true);
        check.due("a trace of nothing", x.figure(8), 0);
        check.due("gone as a WHITE one", x.drain(1), 1);
        gone(check, x, 4);
        check.due("what it held is WHITE", x.object(5, 3), 0);
        check.due("nothing is GREY", x.figure(8), 0);
    }

    /** "all of these that are WHITE become GREY" */
    private static void whatAGreyOneHeldAndIsBlackStaysBlack(Check check) {
        LineCollector x = new LineCollector();
        x.allocate(0, 1, 1);
        x.allocate(1, 2, 2);
        x.store(1, 0, 0);
        x.allocate(2, 1, 3);
        x.store(1, 1, 2);
        x.drop(2);
        x.pause(true);
        check.due("roots", State.roots(x), "4 5 -1 -1 -1 -1");
        check.due("root 0's becomes BLACK", x.trace(1), 1);
        x.drop(1);
        x.pause(false);
        check.due("root 1's is GREY", x.object(5, 3), 1);
        check.due("the third is WHITE", x.object(7, 3), 0);
        check.due("roots 0 and 1", x.drain(1), 1);
        check.due("gone with two fields", x.drain(1), 2);
        gone(check, x, 5);
        check.due("BLACK stays", x.object(4, 3), 2);
        check.due("WHITE is GREY", x.object(7, 3), 1);
    }

    /** Six come at every pause, and their order is kept however often the row is filled and emptied. */
    private static void theRowGoesRound(Check check) {
        LineCollector x = new LineCollector();
        for (int r = 0; r < 6; r++) {
            x.allocate(r, 1, r);
        }
        x.pause(false);
        for (int k = 0; k < 60; k++) {
            x.pause(false);
            check.due("three are left, pause " + k, x.drain(3), 3);
            int drained = 8 + k % 3;
            int waits = 11 + k % 3;
            check.due("drained, pause " + k, x.object(drained, 2), 1);
            check.due("waits, pause " + k, x.object(waits, 2), 2);
        }
        check.due("objects", x.figure(0), 6);
    }

    /** "how many ... waiting decrements there are": not those that waited once, however many there were */
    private static void thoseThatHaveLeftTheRowDoNotCount(Check check) {
        LineCollector x = new LineCollector();
        x.allocate(0, 1, 1);
        for (int r = 1; r < 6; r++) {
            x.copy(r, 0);
        }
        for (int k = 0; k < 100; k++) {
            x.pause(false);
        }
        check.due("six wait", x.figure(2), 6);
        for (int r = 1; r < 6; r++) {
            x.drop(r);
        }
        Layout.traceAll(x);
        check.due("one waits", x.figure(2), 1);
        check.due("a root and a decrement", x.object(x.root(0), 2), 2);
    }

    /** The roots and all cells of the heap in the log at once, and then all cells of what is gone. */
    private static void aFullRow(Check check) {
        LineCollector x = new LineCollector();
        fillWithALoop(x);
        x.pause(false);
        for (int r = 1; r < 6; r++) {
            x.copy(r, 0);
        }
        x.pause(false);
        check.due("root 0 alone held at the first pause", x.figure(2), 1);
        for (int k = 0; k < 32; k++) {
            x.load(1, 0, 0);
            for (int i = 0; i < 4; i++) {
                x.store(0, i, 5);
            }
            x.copy(0, 1);
        }
        for (int r = 0; r < 6; r++) {
            x.drop(r);
        }
        x.pause(false);
        check.due("6 of roots and 128 of the log", x.figure(2), 134);
        check.due("drained one by one", x.drain(1), 133);
        check.due("all but one", x.drain(132), 1);
        check.due("the last", x.drain(1), 0);
    }

    /** 32 objects of 4 cells in a circle, each held by all four fields of the next one, and one by root 0. */
    private static void fillWithALoop(LineCollector x) {
        x.allocate(0, 4, 0);
        x.copy(2, 0);
        for (int k = 1; k < 32; k++) {
            x.allocate(1, 4, k);
            for (int i = 0; i < 4; i++) {
                x.store(1, i, 0);
            }
            x.copy(0, 1);
        }
        for (int i = 0; i < 4; i++) {
            x.store(2, i, 0);
        }
        x.drop(1);
        x.drop(2);
    }

    /** All cells of the heap gave a decrement by the log, and then those of an object that is gone another one. */
    private static void moreThanTheLogHasAtOnce(Check check) {
        LineCollector x = new LineCollector();
        int[] sizes = {12, 12, 8};
        x.allocate(2, 12, 0);
        x.copy(0, 2);
        storeAll(x, 0, 12);
        for (int k = 1; k < 12; k++) {
            x.allocate(1, sizes[k % 3], k);
            storeAll(x, 1, sizes[k % 3]);
            x.store(1, 0, 0);
            x.copy(0, 1);
        }
        x.drop(1);
        check.due("twelve fill the heap", x.pause(false), 12);
        check.due("all lines", State.lines(x), "11111111 11111111 11111111 11111111");
        x.copy(1, 0);
        for (int k = 11; k >= 0; k--) {
            x.load(3, 1, 0);
            storeAll(x, 1, sizes[k % 3]);
            x.copy(1, 3);
        }
        x.drop(0);
        x.drop(1);
        x.drop(3);
        x.pause(false);
        check.due("of two roots and 128 fields", x.figure(2), 130);
        check.due("root 0's of 8 cells is gone", x.drain(1), 137);
        check.due("objects", x.figure(0), 11);
        x.drain(400);
        check.due("root 2's alone is left, with the count 3", x.figure(0), 1);
        check.due("count", x.object(0, 2), 3);
    }

    /** Into all fields of what a root holds, what root 2 holds is stored. */
    private static void storeAll(LineCollector x, int root, int size) {
        for (int i = 0; i < size; i++) {
            x.store(root, i, 2);
        }
    }

    /** "When one is MOVED to a place ... all that held it holds it on" */
    private static void theyAreOfTheObjectWhereverItIsMoved(Check check) {
        LineCollector x = new LineCollector();
        x.allocate(0, 4, 1);
        x.pause(true);
        x.trace(1);
        x.pause(false);
        check.due("moved to block 1 at the end of the trace", x.root(0), 32);
        check.due("its decrement waits", x.figure(2), 1);
        check.due("count", x.object(32, 2), 2);
        check.due("drained", x.drain(1), 0);
        check.due("count then", x.object(32, 2), 1);
        x.drop(0);
        x.pause(false);
        check.due("that of the root it was in when it was moved", x.drain(1), 0);
        check.due("gone", x.figure(0), 0);
    }
}
