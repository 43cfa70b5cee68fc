import java.util.NoSuchElementException;

/** Promise 11: field. */
public final class FieldTest {
    public static void main(String[] args) {
        Check check = new Check();
        LineCollector x = new LineCollector();
        x.allocate(0, 3, 1);
        x.allocate(1, 12, 2);
        x.store(1, 11, 0);
        x.store(1, 0, 1);
        x.store(0, 2, 1);
        check.due("an object", x.field(3, 11), 0);
        check.due("itself", x.field(3, 0), 3);
        check.due("NONE", x.field(3, 5), -1);
        check.due("the last of three", x.field(0, 2), 3);
        for (int address : new int[] {-1, 1, 2, 4, 14, 15, 127, 128, Integer.MIN_VALUE, Integer.MAX_VALUE}) {
            check.throwsDue("at " + address, NoSuchElementException.class, () -> x.field(address, 0));
            check.throwsDue("at first, " + address, NoSuchElementException.class, () -> x.field(address, -1));
        }
        for (int i : new int[] {-1, 3, Integer.MIN_VALUE, Integer.MAX_VALUE}) {
            check.throwsDue("field " + i, IndexOutOfBoundsException.class, () -> x.field(0, i));
        }
        check.throwsDue("field 12", IndexOutOfBoundsException.class, () -> x.field(3, 12));
        x.pause(false);
        check.due("moved", x.field(19, 11), 16);
        check.throwsDue("not there any more", NoSuchElementException.class, () -> x.field(3, 11));
        fieldsOfEachSize(check);
        check.end();
    }

    /** "Its cells are its FIELDS 0 .. n - 1" */
    private static void fieldsOfEachSize(Check check) {
        for (int n = 1; n <= 12; n++) {
            LineCollector x = new LineCollector();
            int size = n;
            x.allocate(0, size, n);
            x.store(0, size - 1, 0);
            check.due("the last of " + n, x.field(0, size - 1), 0);
            check.due("loaded", x.load(1, 0, size - 1), 0);
            check.throwsDue("behind " + n, IndexOutOfBoundsException.class, () -> x.field(0, size));
            check.throwsDue("stored behind " + n, IndexOutOfBoundsException.class, () -> x.store(0, size, 0));
            check.throwsDue("loaded behind " + n, IndexOutOfBoundsException.class, () -> x.load(1, 0, size));
            check.throwsDue("no object in its last cell", NoSuchElementException.class,
                () -> x.field(size == 1 ? 1 : size - 1, 0));
        }
    }
}
