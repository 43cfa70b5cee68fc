/** Promise 13: line. */
public final class LineTest {
    public static void main(String[] args) {
        Check check = new Check();
        LineCollector x = new LineCollector();
        lines(check, x, "00000000 00000000 00000000 00000000");
        x.allocate(0, 5, 1);
        lines(check, x, "11222222 00000000 00000000 00000000");
        x.allocate(1, 1, 2);
        lines(check, x, "11222222 12222222 00000000 00000000");
        x.allocate(2, 4, 3);
        lines(check, x, "11222222 11222222 00000000 00000000");
        x.allocate(3, 12, 4);
        lines(check, x, "11222222 11111222 00000000 00000000");
        x.pause(false);
        check.due("root 0 in a free block", x.root(0), 64);
        check.due("root 1 in free lines", x.root(1), 8);
        check.due("root 2 behind it", x.root(2), 9);
        check.due("root 3 behind that", x.root(3), 13);
        lines(check, x, "00111110 00000000 11000000 00000000");
        x.allocate(4, 3, 5);
        lines(check, x, "12111110 00000000 11000000 00000000");
        for (int l : new int[] {-1, 32, Integer.MIN_VALUE, Integer.MAX_VALUE}) {
            check.throwsDue("line " + l, IndexOutOfBoundsException.class, () -> x.line(l));
        }
        check.end();
    }

    private static void lines(Check check, LineCollector x, String due) {
        check.due("lines", State.lines(x), due);
    }
}
