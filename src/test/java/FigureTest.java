/** Promise 14: figure. */
public final class FigureTest {
    public static void main(String[] args) {
        Check check = new Check();
        LineCollector x = new LineCollector();
        figures(check, x, "0 0 0 0 0 0 0 0 0");
        x.allocate(0, 2, 1);
        x.allocate(1, 2, 2);
        x.allocate(2, 2, 3);
        figures(check, x, "3 3 0 0 0 0 0 0 0");
        x.store(1, 0, 2);
        x.store(2, 0, 1);
        x.pause(false);
        figures(check, x, "3 0 0 0 1 0 3 0 0");
        x.store(0, 0, 0);
        x.store(0, 1, 0);
        figures(check, x, "3 0 0 2 1 0 3 0 0");
        x.drop(1);
        x.drop(2);
        x.pause(true);
        figures(check, x, "3 0 3 0 2 1 3 0 1");
        x.drain(2);
        figures(check, x, "3 0 1 0 2 1 3 0 1");
        x.trace(1);
        x.allocate(3, 1, 4);
        figures(check, x, "4 1 1 0 2 1 3 0 0");
        x.pause(false);
        figures(check, x, "2 0 1 0 3 0 6 2 0");
        for (int k : new int[] {-1, 9, Integer.MIN_VALUE, Integer.MAX_VALUE}) {
            check.throwsDue("figure " + k, IllegalArgumentException.class, () -> x.figure(k));
        }
        goneAsWhiteInAll(check);
        check.end();
    }

    /** "7: how many objects were gone as WHITE ones at the end of a trace, in all" */
    private static void goneAsWhiteInAll(Check check) {
        LineCollector x = new LineCollector();
        for (int n = 1; n <= 3; n++) {
            for (int k = 0; k < n; k++) {
                x.allocate(k, 1, k);
                x.store(k, 0, k);
            }
            x.pause(false);
            for (int k = 0; k < n; k++) {
                x.drop(k);
            }
            Layout.traceAll(x);
            check.due("1 and 2 and 3", x.figure(7), n * (n + 1) / 2);
        }
    }

    private static void figures(Check check, LineCollector x, String due) {
        check.due("figures", State.figures(x), due);
    }
}
