/** Promise 1: a new object has no objects, and all else is at its beginning. */
public final class NewObjectTest {
    public static void main(String[] args) {
        Check check = new Check();
        nothingIsThere(check);
        twoAreApart(check);
        check.end();
    }

    private static void nothingIsThere(Check check) {
        LineCollector x = new LineCollector();
        for (int k = 0; k <= 8; k++) {
            check.due("figure " + k, x.figure(k), 0);
        }
        for (int r = 0; r < 6; r++) {
            check.due("root " + r, x.root(r), LineCollector.NONE);
        }
        for (int l = 0; l < 32; l++) {
            check.due("line " + l, x.line(l), 0);
        }
        for (int address = 0; address < 128; address++) {
            int a = address;
            check.throwsDue("object " + a, java.util.NoSuchElementException.class, () -> x.object(a, 0));
        }
        check.due("drain", x.drain(3), 0);
        check.due("pause", x.pause(false), 0);
        check.due("NONE", LineCollector.NONE, -1);
    }

    private static void twoAreApart(Check check) {
        LineCollector x = new LineCollector();
        LineCollector y = new LineCollector();
        x.allocate(0, 2, 1);
        x.pause(true);
        check.due("objects of the other", y.figure(0), 0);
        check.due("pauses of the other", y.figure(4), 0);
        check.due("trace of the other", y.figure(5), 0);
        check.due("root of the other", y.root(0), LineCollector.NONE);
        check.due("line of the other", y.line(1), 0);
    }
}
