import java.util.NoSuchElementException;

/** Promise 7: drain. */
public final class DrainTest {
    public static void main(String[] args) {
        Check check = new Check();
        oneByOne(check);
        thoseThatComeMeanwhile(check);
        fieldsInOrder(check);
        aCountOfThreeStays(check);
        whatAGreyOneHeldTurnsGrey(check);
        whatABlackOneHeldStaysWhite(check);
        wrongInputs(check);
        check.end();
    }

    /** Root 0 holds an object, which holds a second one, which holds a third; a pause moves them to 8, 10, 12. */
    private static LineCollector chain() {
        LineCollector x = new LineCollector();
        x.allocate(0, 2, 1);
        x.allocate(1, 2, 2);
        x.allocate(2, 1, 3);
        x.store(0, 1, 1);
        x.store(1, 0, 2);
        x.drop(1);
        x.drop(2);
        return x;
    }

    private static void oneByOne(Check check) {
        LineCollector x = chain();
        check.due("pause", x.pause(false), 3);
        x.drop(0);
        x.pause(false);
        check.due("nothing drained", x.drain(0), 1);
        check.due("all there", x.figure(0), 3);
        int first = 8;
        check.due("one gone, one comes", x.drain(1), 1);
        check.throwsDue("gone", NoSuchElementException.class, () -> x.object(first, 0));
        check.due("the next one is there", x.object(10, 2), 1);
        check.due("one more", x.drain(1), 1);
        check.due("its line stays used", x.line(3), 1);
        check.due("the last one", x.drain(1), 0);
        check.due("its line is free", x.line(3), 0);
        check.due("objects", x.figure(0), 0);
        check.due("none to drain", x.drain(1), 0);
    }

    private static void thoseThatComeMeanwhile(Check check) {
        LineCollector x = chain();
        x.pause(false);
        x.drop(0);
        x.pause(false);
        check.due("two", x.drain(2), 1);
        check.due("objects", x.figure(0), 1);
        check.due("as many as come", x.drain(Integer.MAX_VALUE), 0);
        check.due("objects then", x.figure(0), 0);
    }

    private static void fieldsInOrder(Check check) {
        LineCollector x = new LineCollector();
        x.allocate(0, 4, 1);
        x.allocate(1, 1, 2);
        x.allocate(2, 1, 3);
        x.store(0, 3, 1);
        x.store(0, 1, 2);
        x.drop(1);
        x.drop(2);
        x.pause(false);
        int late = x.field(8, 3);
        int early = x.field(8, 1);
        x.drop(0);
        x.pause(false);
        check.due("two come", x.drain(1), 2);
        check.due("one drained", x.drain(1), 1);
        check.throwsDue("field 1 first", NoSuchElementException.class, () -> x.object(early, 0));
        check.due("field 3 later", x.object(late, 1), 2);
    }

    private static void aCountOfThreeStays(Check check) {
        LineCollector x = new LineCollector();
        x.allocate(0, 1, 1);
        x.copy(1, 0);
        x.copy(2, 0);
        x.allocate(3, 1, 2);
        x.copy(4, 3);
        x.pause(false);
        check.due("count of 3", x.object(4, 2), 3);
        check.due("count of 2", x.object(5, 2), 2);
        for (int r = 0; r < 5; r++) {
            x.drop(r);
        }
        x.pause(false);
        check.due("drained", x.drain(4), 1);
        check.due("3 stays", x.object(4, 2), 3);
        check.due("2 is 1", x.object(5, 2), 1);
        check.due("last", x.drain(1), 0);
        check.throwsDue("gone", NoSuchElementException.class, () -> x.object(5, 2));
        check.due("3 stays there", x.figure(0), 1);
    }

    private static void whatAGreyOneHeldTurnsGrey(Check check) {
        LineCollector x = chain();
        x.pause(true);
        check.due("GREY", x.figure(8), 1);
        x.drop(0);
        x.pause(false);
        check.due("still GREY", x.object(8, 3), 1);
        check.due("WHITE", x.object(10, 3), 0);
        check.due("drain", x.drain(1), 1);
        check.due("held by a GREY one", x.object(10, 3), 1);
        check.due("not yet", x.object(12, 3), 0);
        check.due("how many are GREY", x.figure(8), 1);
        check.due("drain on", x.drain(1), 1);
        check.due("in turn", x.object(12, 3), 1);
        check.due("drain the last", x.drain(1), 0);
        check.due("none is GREY", x.figure(8), 0);
    }

    private static void whatABlackOneHeldStaysWhite(Check check) {
        LineCollector x = chain();
        x.pause(true);
        x.load(1, 0, 1);
        x.allocate(2, 1, 9);
        x.store(2, 0, 1);
        x.drop(1);
        x.pause(false);
        int black = x.root(2);
        check.due("BLACK", x.object(black, 3), 2);
        check.due("WHITE", x.object(10, 3), 0);
        check.due("count", x.object(10, 2), 2);
        x.drop(2);
        x.pause(false);
        check.due("drain", x.drain(2), 1);
        check.throwsDue("gone", NoSuchElementException.class, () -> x.object(black, 0));
        check.due("stays WHITE", x.object(10, 3), 0);
        check.due("drain on", x.drain(9), 0);
        check.due("count then", x.object(10, 2), 1);
    }

    private static void wrongInputs(Check check) {
        LineCollector x = chain();
        x.pause(false);
        x.pause(false);
        check.throwsDue("-1", IllegalArgumentException.class, () -> x.drain(-1));
        check.throwsDue("least", IllegalArgumentException.class, () -> x.drain(Integer.MIN_VALUE));
        check.due("nothing drained", x.figure(2), 1);
    }
}
