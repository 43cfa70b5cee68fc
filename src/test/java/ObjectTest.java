import java.util.NoSuchElementException;

/** Promise 12: object. */
public final class ObjectTest {
    public static void main(String[] args) {
        Check check = new Check();
        LineCollector x = new LineCollector();
        x.allocate(0, 3, -77);
        x.allocate(1, 1, Integer.MAX_VALUE);
        x.store(0, 0, 1);
        answers(check, x, 0, new int[] {3, -77, 0, 0});
        answers(check, x, 3, new int[] {1, Integer.MAX_VALUE, 0, 0});
        x.drop(1);
        x.pause(true);
        answers(check, x, 4, new int[] {3, -77, 1, 1});
        answers(check, x, 7, new int[] {1, Integer.MAX_VALUE, 1, 0});
        x.trace(1);
        answers(check, x, 4, new int[] {3, -77, 1, 2});
        answers(check, x, 7, new int[] {1, Integer.MAX_VALUE, 1, 1});
        x.allocate(2, 2, 5);
        answers(check, x, 0, new int[] {2, 5, 0, 0});
        wrongInputs(check, x);
        check.end();
    }

    private static void answers(Check check, LineCollector x, int address, int[] due) {
        for (int what = 0; what < 4; what++) {
            check.due("object " + address + " " + what, x.object(address, what), due[what]);
        }
    }

    private static void wrongInputs(Check check, LineCollector x) {
        for (int what : new int[] {-1, 4, Integer.MIN_VALUE, Integer.MAX_VALUE}) {
            check.throwsDue("what " + what, IllegalArgumentException.class, () -> x.object(4, what));
            check.throwsDue("what first " + what, IllegalArgumentException.class, () -> x.object(5, what));
        }
        for (int address : new int[] {-1, 1, 5, 8, 127, 128, Integer.MIN_VALUE, Integer.MAX_VALUE}) {
            check.throwsDue("at " + address, NoSuchElementException.class, () -> x.object(address, 0));
        }
    }
}
