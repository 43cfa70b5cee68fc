import java.util.concurrent.Callable;

/** Long runs of calls by a fixed rule, each answer and the whole state compared with the model's. */
public final class ModelTest {
    private static final int RUNS = 1200;
    private static final int CALLS = 512;

    private final Check check;
    private final int run;
    private final LineCollector program = new LineCollector();
    private final Model model = new Model();
    private long seed;
    private int calls;

    private ModelTest(Check check, int run) {
        this.check = check;
        this.run = run;
        this.seed = 7919L * run + 1;
    }

    public static void main(String[] args) {
        Check check = new Check();
        for (int run = 0; run < RUNS; run++) {
            new ModelTest(check, run).play();
        }
        check.end();
    }

    private int below(int n) {
        seed = seed * 6364136223846793005L + 1442695040888963407L;
        return (int) ((seed >>> 33) % n);
    }

    private void play() {
        for (int turn = 0; calls < CALLS; turn++) {
            playOne();
            if (turn % 8 == 7) {
                compareState();
            }
        }
    }

    private int anyRoot() {
        return below(60) == 0 ? below(2) * 7 - 1 : below(6);
    }

    private int anyField() {
        return below(40) == 0 ? below(16) - 2 : below(run % 5 == 0 ? 12 : 3);
    }

    private int anySize() {
        if (below(80) == 0) {
            return below(2) * 13;
        }
        int most = new int[] {4, 12, 2, 6}[run % 4];
        return run % 8 < 4 || below(3) == 0 ? 1 + below(most) : 5 + below(8);
    }

    /** Runs that keep little, that fill the heap, that also pause seldom, and that store much into what they keep. */
    private void playOne() {
        int way = run / 8 % 4;
        boolean filled = way == 3 && calls > 200;
        if (way > 0 && !filled && below(3) == 0) {
            keepOneMore();
            return;
        }
        int often = run / 32 % 6;
        int kind = below(24 + (way == 2 ? often % 2 : filled ? 1 : 2 + often));
        playAny(filled && kind < 7 ? kind + 7 : kind);
    }

    /** A new object holds what a root held, and the root holds the new object. */
    private void keepOneMore() {
        int kept = below(2);
        int via = 2 + below(4);
        int size = anySize();
        int tag = below(1000) - 500;
        int i = below(2) * below(size + 1);
        act("allocate", () -> program.allocate(via, size, tag), () -> model.allocate(via, size, tag));
        act("store", () -> said(() -> program.store(via, i, kept)), () -> said(() -> model.store(via, i, kept)));
        act("copy", () -> said(() -> program.copy(kept, via)), () -> said(() -> model.copy(kept, via)));
    }

    private void playAny(int kind) {
        if (kind < 7) {
            int r = anyRoot();
            int size = anySize();
            int tag = below(1000) - 500;
            act("allocate", () -> program.allocate(r, size, tag), () -> model.allocate(r, size, tag));
        } else if (kind < 14) {
            int r = anyRoot();
            int i = anyField();
            int from = anyRoot();
            act("store", () -> said(() -> program.store(r, i, from)), () -> said(() -> model.store(r, i, from)));
        } else if (kind < 18) {
            int to = anyRoot();
            int r = anyRoot();
            int i = anyField();
            act("load", () -> program.load(to, r, i), () -> model.load(to, r, i));
        } else if (kind < 19) {
            int r = anyRoot();
            act("drop", () -> said(() -> program.drop(r)), () -> said(() -> model.drop(r)));
        } else if (kind < 20) {
            int to = anyRoot();
            int from = anyRoot();
            act("copy", () -> said(() -> program.copy(to, from)), () -> said(() -> model.copy(to, from)));
        } else if (kind < 22) {
            int n = below(7) - 1;
            act("drain", () -> program.drain(n), () -> model.drain(n));
        } else if (kind < 24) {
            int n = below(6) - 1;
            act("trace", () -> program.trace(n), () -> model.trace(n));
        } else {
            boolean begins = below(2) == 0;
            act("pause", () -> program.pause(begins), () -> model.pause(begins));
        }
    }

    private static String said(Check.Act act) throws Exception {
        act.run();
        return "done";
    }

    private void act(String what, Callable<?> got, Callable<?> want) {
        calls++;
        compare(what, got, want);
    }

    private void compare(String what, Callable<?> got, Callable<?> want) {
        check.due("run " + run + ": " + what, Check.answerOf(got), Check.answerOf(want));
    }

    private void compareState() {
        for (int r = 0; r < 6; r++) {
            check.due("run " + run + ": root " + r, program.root(r), model.root(r));
        }
        for (int l = 0; l < 32; l++) {
            check.due("run " + run + ": line " + l, program.line(l), model.line(l));
        }
        for (int k = 0; k < 9; k++) {
            check.due("run " + run + ": figure " + k, program.figure(k), model.figure(k));
        }
        for (Model.Thing t : model.things) {
            compareObject(t);
        }
        int address = below(132) - 2;
        int what = below(6) - 1;
        compare("object", () -> program.object(address, what), () -> model.object(address, what));
        compare("field", () -> program.field(address, what), () -> model.field(address, what));
    }

    private void compareObject(Model.Thing t) {
        for (int what = 0; what < 4; what++) {
            int asked = what;
            compare("object " + t.address + " " + what,
                () -> program.object(t.address, asked), () -> model.object(t.address, asked));
        }
        for (int i = -1; i <= t.size; i++) {
            int asked = i;
            compare("field " + t.address + " " + i,
                () -> program.field(t.address, asked), () -> model.field(t.address, asked));
        }
    }
}
