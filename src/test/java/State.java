/** What the calls of the face tell of a heap, as texts, so that two states can be compared whole. */
final class State {
    private State() {
    }

    /** Everything that can be asked. */
    static String of(LineCollector x) {
        StringBuilder text = new StringBuilder(figures(x));
        text.append(" | roots ").append(roots(x)).append(" | lines ").append(lines(x));
        for (int address = 0; address < 128; address++) {
            int asked = address;
            String size = Check.answerOf(() -> x.object(asked, 0));
            if (!size.startsWith("java")) {
                text.append(" | at ").append(address);
                appendObject(text, x, address, Integer.parseInt(size));
            }
        }
        return text.toString();
    }

    private static void appendObject(StringBuilder text, LineCollector x, int address, int size) {
        for (int what = 0; what < 4; what++) {
            text.append(' ').append(x.object(address, what));
        }
        text.append(':');
        for (int i = 0; i < size; i++) {
            text.append(' ').append(x.field(address, i));
        }
    }

    /** The lines, with a gap between two blocks. */
    static String lines(LineCollector x) {
        StringBuilder text = new StringBuilder();
        for (int l = 0; l < 32; l++) {
            text.append(l > 0 && l % 8 == 0 ? " " : "").append(x.line(l));
        }
        return text.toString();
    }

    static String figures(LineCollector x) {
        StringBuilder text = new StringBuilder();
        for (int k = 0; k <= 8; k++) {
            text.append(k > 0 ? " " : "").append(x.figure(k));
        }
        return text.toString();
    }

    static String roots(LineCollector x) {
        StringBuilder text = new StringBuilder();
        for (int r = 0; r < 6; r++) {
            text.append(r > 0 ? " " : "").append(x.root(r));
        }
        return text.toString();
    }
}
