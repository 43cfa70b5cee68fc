import java.util.NoSuchElementException;

/** Promise 11: field. */
public final class FieldTest {
    public static void main(String[] args) {
        Check check = new Check();
        LineCollector x = new LineCollector();
        x.allocate(0, 3, 1);
        x.allocate(1, 12, 2);
        x.store(1, 11, 0);
        x.store(1, 0, 1);
        x.store(0, 2, 1);
        check.due("an object", x.field(3, 11), 0);
        check.due("itself", x.field(3, 0), 3);
        check.due("NONE", x.field(3, 5), -1);
        check.due("the last of three", x.field(0, 2), 3);
        for (int address : new int[] {-1, 1, 2, 4, 14, 15, 127, 128, Integer.MIN_VALUE, Integer.MAX_VALUE}) {
            check.throwsDue("at " + address, NoSuchElementException.class, () -> x.field(address, 0));
            check.throwsDue("at first, " + address, NoSuchElementException.class, () -> x.field(address, -1));
        }
        for (int i : new int[] {-1, 3, Integer.MIN_VALUE, Integer.MAX_VALUE}) {
            check.throwsDue("field " + i, IndexOutOfBoundsException.class, () -> x.field(0, i));
        }
        check.throwsDue("field 12", IndexOutOfBoundsException.class, () -> x.field(3, 12));
        x.pause(false);
        check.due("moved", x.field(19, 11), 16);
        check.throwsDue("not there any more", NoSuchElementException.class, () -> x.field(3, 11));
        check.end();
    }
}
