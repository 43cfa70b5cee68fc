/** Terms: the log, at its edges; each method is one part of its sentence. */
public final class LogEdgesTest {
    public static void main(String[] args) {
        Check check = new Check();
        aYoungObjectsFieldsDoNotCome(check);
        theSameObjectComesOnceItIsOld(check);
        noneIsSomethingToStore(check);
        whatIsHeldAlreadyIsSomethingToStore(check);
        onlyTheFirstTimeSinceThePause(check);
        eachFieldForItself(check);
        everyPauseBeginsAnew(check);
        aCollectionsPausesBeginAnew(check);
        aRefusedStoreDoesNotCome(check);
        aFieldThatHeldNoneGivesNoDecrement(check);
        aFieldThatHoldsTheSameAgainCountsUpAndDown(check);
        allCellsOfTheHeapInTheLog(check);
        check.end();
    }

    /** Root 0 holds an old object of 3 fields at 4, with the count 1. */
    private static LineCollector oneOld() {
        LineCollector x = new LineCollector();
        x.allocate(0, 3, 1);
        x.pause(false);
        return x;
    }

    /** "into a field of an old object" */
    private static void aYoungObjectsFieldsDoNotCome(Check check) {
        LineCollector x = oneOld();
        x.allocate(1, 2, 2);
        x.store(1, 0, 0);
        x.store(1, 1, 1);
        check.due("the log is empty", x.figure(3), 0);
    }

    private static void theSameObjectComesOnceItIsOld(Check check) {
        LineCollector x = new LineCollector();
        x.allocate(0, 3, 1);
        x.store(0, 0, 0);
        check.due("young", x.figure(3), 0);
        x.pause(false);
        x.store(0, 0, 0);
        check.due("old", x.figure(3), 1);
    }

    /** "When something (or NONE) is stored" */
    private static void noneIsSomethingToStore(Check check) {
        LineCollector x = oneOld();
        x.store(0, 0, 5);
        check.due("NONE where NONE was", x.figure(3), 1);
        check.due("holds NONE", x.field(4, 0), -1);
    }

    private static void whatIsHeldAlreadyIsSomethingToStore(Check check) {
        LineCollector x = oneOld();
        x.store(0, 1, 0);
        x.pause(false);
        x.store(0, 1, 0);
        check.due("itself where it was", x.figure(3), 1);
    }

    /** "for the first time since the latest pause" */
    private static void onlyTheFirstTimeSinceThePause(Check check) {
        LineCollector x = oneOld();
        for (int k = 0; k < 5; k++) {
            x.store(0, 2, k % 2 == 0 ? 0 : 5);
            check.due("time " + k, x.figure(3), 1);
        }
    }

    private static void eachFieldForItself(Check check) {
        LineCollector x = oneOld();
        x.store(0, 2, 0);
        x.store(0, 0, 0);
        x.store(0, 1, 0);
        check.due("three fields", x.figure(3), 3);
        x.allocate(1, 3, 2);
        x.pause(false);
        x.store(0, 1, 1);
        x.store(1, 1, 1);
        check.due("field 1 of two objects", x.figure(3), 2);
    }

    /** "The log is empty then." */
    private static void everyPauseBeginsAnew(Check check) {
        LineCollector x = oneOld();
        for (int k = 0; k < 4; k++) {
            x.store(0, 0, 0);
            check.due("in the log, pause " + k, x.figure(3), 1);
            x.pause(k % 2 == 0);
            check.due("empty, pause " + k, x.figure(3), 0);
        }
    }

    private static void aCollectionsPausesBeginAnew(Check check) {
        LineCollector x = oneOld();
        x.store(0, 0, 0);
        for (int l = 0; l < 31; l++) {
            x.allocate(1, 4, l);
        }
        check.due("no collection yet", x.figure(4), 1);
        check.due("still in the log", x.figure(3), 1);
        x.allocate(1, 4, 31);
        check.due("collected", x.figure(4), 3);
        check.due("empty", x.figure(3), 0);
        x.store(0, 0, 5);
        check.due("for the first time again", x.figure(3), 1);
    }

    /** "A call that throws changes nothing" */
    private static void aRefusedStoreDoesNotCome(Check check) {
        LineCollector x = oneOld();
        check.throwsDue("field 3", IndexOutOfBoundsException.class, () -> x.store(0, 3, 0));
        check.throwsDue("root 6", IllegalArgumentException.class, () -> x.store(0, 0, 6));
        check.due("empty", x.figure(3), 0);
        x.store(0, 0, 0);
        check.due("one", x.figure(3), 1);
    }

    /** "one of the object that it held before, come behind the row, if there was one" */
    private static void aFieldThatHeldNoneGivesNoDecrement(Check check) {
        LineCollector x = oneOld();
        x.drop(0);
        x.pause(false);
        x.drain(1);
        x.allocate(0, 3, 1);
        x.pause(false);
        x.allocate(1, 1, 2);
        x.store(0, 0, 1);
        x.store(0, 0, 5);
        x.drop(1);
        x.pause(false);
        check.due("root 0's decrement alone", x.figure(2), 1);
        check.due("what was stored between is gone", x.figure(0), 1);
    }

    private static void aFieldThatHoldsTheSameAgainCountsUpAndDown(Check check) {
        LineCollector x = new LineCollector();
        x.allocate(0, 1, 1);
        x.allocate(1, 1, 2);
        x.store(0, 0, 1);
        x.drop(1);
        x.pause(false);
        check.due("count", x.object(5, 2), 1);
        x.load(1, 0, 0);
        x.store(0, 0, 5);
        x.store(0, 0, 1);
        x.drop(1);
        x.pause(false);
        check.due("1 more by the field", x.object(5, 2), 2);
        check.due("decrements of root 0's and of the field's", x.figure(2), 2);
        x.drain(2);
        check.due("1 less", x.object(5, 2), 1);
    }

    /** As many fields as the heap has cells, each of which held something: a full log. */
    private static void allCellsOfTheHeapInTheLog(Check check) {
        LineCollector x = new LineCollector();
        fillWithAList(x);
        check.due("all become old where they are", x.pause(false), 32);
        check.due("no place to move to", x.figure(6), 0);
        x.copy(1, 0);
        int n = 0;
        for (int k = 0; k < 32; k++) {
            x.load(2, 1, 0);
            for (int i = 0; i < 4; i++) {
                x.store(1, i, 5);
                n++;
            }
            check.due("fields in the log", x.figure(3), n);
            x.copy(1, 2);
        }
        check.due("all cells", n, 128);
        x.drop(1);
        x.drop(2);
        check.due("nothing young", x.pause(false), 0);
        check.due("one of a root, 31 of links, 32 * 3 of the objects themselves", x.figure(2), 128);
        check.due("objects", x.figure(0), 32);
        x.drain(200);
        check.due("counts of 3 stay", x.figure(0), 32);
        x.drop(0);
        x.pause(true);
        x.trace(200);
        x.pause(false);
        check.due("found by the trace", x.figure(7), 32);
    }

    /** 32 young objects of 4 cells fill the heap: field 0 holds the one before, the others the object itself. */
    private static void fillWithAList(LineCollector x) {
        for (int k = 0; k < 32; k++) {
            x.allocate(1, 4, k);
            x.store(1, 0, 0);
            for (int i = 1; i < 4; i++) {
                x.store(1, i, 1);
            }
            x.copy(0, 1);
        }
        x.drop(1);
    }
}
