/** Heaps in which old objects lie where a test wants them: in a full heap a pause finds no place to move to. */
final class Layout {
    private Layout() {
    }

    /**
     * Old objects of a size (2 or 4) at rising addresses, their tags: each one's field 0 holds the one before,
     * its field 1 holds itself if it is to be a circle, and root 0 holds the last one. There was one pause.
     */
    static LineCollector keep(int size, boolean circles, int... addresses) {
        LineCollector x = new LineCollector();
        int next = 0;
        for (int address = 0; address < 128; address += size) {
            x.allocate(1, size, address);
            if (next < addresses.length && addresses[next] == address) {
                x.store(1, 0, 0);
                if (circles) {
                    x.store(1, 1, 1);
                }
                x.copy(0, 1);
                next++;
            }
        }
        x.drop(1);
        x.pause(false);
        return x;
    }

    /** Old objects of 4 cells that fill lines. */
    static LineCollector keepLines(int... lines) {
        int[] addresses = new int[lines.length];
        for (int k = 0; k < lines.length; k++) {
            addresses[k] = 4 * lines[k];
        }
        return keep(4, false, addresses);
    }

    /** A trace from its beginning to its end. */
    static void traceAll(LineCollector x) {
        x.pause(true);
        endTrace(x);
    }

    /** The steps that are left, and the pause at which the trace ends. */
    static void endTrace(LineCollector x) {
        x.trace(200);
        x.pause(false);
    }
}
