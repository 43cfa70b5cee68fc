import java.util.ArrayDeque;
import java.util.ArrayList;
import java.util.Comparator;
import java.util.HashSet;
import java.util.List;
import java.util.NoSuchElementException;
import java.util.Set;
import java.util.TreeSet;

/**
 * The document once more, in the plainest words and with nothing kept that can be looked up: it is what
 * ModelTest compares the program with. It also watches that its own counts stay true.
 */
final class Model {
    static final class Thing {
        int address;
        int size;
        int tag;
        boolean young = true;
        int count;
        char colour = 'W';
        Thing[] fields;
    }

    record Entry(Thing owner, int index, Thing before) {
    }

    final List<Thing> things = new ArrayList<>();
    final Thing[] roots = new Thing[6];
    final ArrayDeque<Thing> decrements = new ArrayDeque<>();
    final List<Entry> log = new ArrayList<>();
    private final Thing[] rootsBefore = new Thing[6];
    private final Set<Integer> linesMovedFrom = new TreeSet<>();
    private int[] hole;
    private int[] overflow;
    private int cleared = -1;
    private boolean traceRuns;
    private int pauses;
    private int moves;
    private int swept;

    int allocate(int root, int size, int tag) {
        wrongIf(root < 0 || root > 5 || size < 1 || size > 12);
        int place = place(size);
        if (place < 0) {
            pause(true);
            while (greys().size() > 0) {
                step();
            }
            pause(false);
            drainAll();
            place = place(size);
        }
        if (place < 0) {
            throw new UnsupportedOperationException();
        }
        Thing t = new Thing();
        t.address = place;
        t.size = size;
        t.tag = tag;
        t.fields = new Thing[size];
        things.add(t);
        roots[root] = t;
        return place;
    }

    void drop(int root) {
        wrongIf(root < 0 || root > 5);
        roots[root] = null;
    }

    void copy(int to, int from) {
        wrongIf(to < 0 || to > 5 || from < 0 || from > 5);
        roots[to] = roots[from];
    }

    int load(int to, int root, int i) {
        wrongIf(to < 0 || to > 5 || root < 0 || root > 5);
        roots[to] = owner(root, i).fields[i];
        return address(roots[to]);
    }

    void store(int root, int i, int from) {
        wrongIf(root < 0 || root > 5 || from < 0 || from > 5);
        Thing t = owner(root, i);
        boolean inLog = log.stream().anyMatch(e -> e.owner == t && e.index == i);
        if (!t.young && !inLog) {
            log.add(new Entry(t, i, t.fields[i]));
        }
        t.fields[i] = roots[from];
    }

    int drain(int n) {
        wrongIf(n < 0);
        for (int k = 0; k < n && !decrements.isEmpty(); k++) {
            drainOne();
        }
        return decrements.size();
    }

    int trace(int n) {
        wrongIf(n < 0);
        if (!traceRuns) {
            throw new IllegalStateException();
        }
        for (int k = 0; k < n && greys().size() > 0; k++) {
            step();
        }
        return greys().size();
    }

    int pause(boolean begins) {
        pauses++;
        drainAll();
        hole = null;
        overflow = null;
        int grown = stepTwo();
        linesMovedFrom.clear();
        stepThree();
        if (traceRuns && greys().isEmpty()) {
            endTrace();
            linesMovedFrom.clear();
        }
        if (begins && !traceRuns) {
            traceRuns = true;
            for (Thing t : roots) {
                if (t != null) {
                    t.colour = 'G';
                }
            }
        }
        hole = null;
        overflow = null;
        for (int r = 0; r < 6; r++) {
            rootsBefore[r] = roots[r];
        }
        watch();
        return grown;
    }

    int root(int r) {
        wrongIf(r < 0 || r > 5);
        return address(roots[r]);
    }

    int field(int address, int i) {
        Thing t = at(address);
        if (i < 0 || i >= t.size) {
            throw new IndexOutOfBoundsException();
        }
        return address(t.fields[i]);
    }

    int object(int address, int what) {
        wrongIf(what < 0 || what > 3);
        Thing t = at(address);
        int colour = t.young ? 0 : "WGB".indexOf(t.colour);
        return new int[] {t.size, t.tag, t.young ? 0 : t.count, colour}[what];
    }

    int line(int l) {
        if (l < 0 || l > 31) {
            throw new IndexOutOfBoundsException();
        }
        return used(l) ? 1 : within(l, hole) || within(l, overflow) ? 2 : 0;
    }

    int figure(int k) {
        wrongIf(k < 0 || k > 8);
        int young = (int) things.stream().filter(t -> t.young).count();
        return new int[] {things.size(), young, decrements.size(), log.size(), pauses, traceRuns ? 1 : 0,
            moves, swept, greys().size()}[k];
    }

    private static void wrongIf(boolean wrong) {
        if (wrong) {
            throw new IllegalArgumentException();
        }
    }

    private static int address(Thing t) {
        return t == null ? -1 : t.address;
    }

    private Thing owner(int root, int i) {
        if (roots[root] == null) {
            throw new IllegalStateException();
        }
        if (i < 0 || i >= roots[root].size) {
            throw new IndexOutOfBoundsException();
        }
        return roots[root];
    }

    private Thing at(int address) {
        return things.stream().filter(t -> t.address == address).findFirst()
            .orElseThrow(NoSuchElementException::new);
    }

    private List<Thing> rising() {
        return things.stream().sorted(Comparator.comparingInt(t -> t.address)).toList();
    }

    private List<Thing> greys() {
        return rising().stream().filter(t -> !t.young && t.colour == 'G').toList();
    }

    private static void grey(Thing t) {
        if (!t.young && t.colour == 'W') {
            t.colour = 'G';
        }
    }

    private void step() {
        Thing t = greys().get(0);
        t.colour = 'B';
        for (Thing f : t.fields) {
            if (f != null) {
                grey(f);
            }
        }
    }

    private void drainAll() {
        while (!decrements.isEmpty()) {
            drainOne();
        }
    }

    private void drainOne() {
        Thing t = decrements.removeFirst();
        if (!things.contains(t) || t.young) {
            throw new AssertionError("a decrement of what is gone or young");
        }
        if (t.count == 3) {
            return;
        }
        t.count--;
        if (t.count == 0) {
            lose(t);
        }
    }

    private void lose(Thing t) {
        things.remove(t);
        for (Thing f : t.fields) {
            if (f != null) {
                decrements.addLast(f);
                if (t.colour == 'G') {
                    grey(f);
                }
            }
        }
    }

    private int stepTwo() {
        List<Thing> slots = new ArrayList<>(java.util.Arrays.asList(roots));
        log.forEach(e -> slots.add(e.owner.fields[e.index]));
        int grown = 0;
        for (int k = 0; k < slots.size(); k++) {
            Thing x = slots.get(k);
            if (x == null) {
                continue;
            }
            if (!x.young) {
                x.count = Math.min(3, x.count + 1);
                continue;
            }
            grown++;
            x.young = false;
            x.count = 1;
            x.colour = traceRuns ? 'B' : 'W';
            move(x);
            slots.addAll(java.util.Arrays.asList(x.fields));
        }
        return grown;
    }

    private void stepThree() {
        things.removeIf(t -> t.young);
        for (Thing t : rootsBefore) {
            if (t != null) {
                decrements.addLast(t);
            }
        }
        for (Entry e : log) {
            if (e.before != null) {
                decrements.addLast(e.before);
                if (traceRuns) {
                    grey(e.before);
                }
            }
        }
        log.clear();
    }

    private void endTrace() {
        List<Thing> white = rising().stream().filter(t -> t.colour == 'W').toList();
        things.removeAll(white);
        swept += white.size();
        for (Thing t : white) {
            for (Thing f : t.fields) {
                if (f != null && !white.contains(f)) {
                    decrements.addLast(f);
                }
            }
        }
        for (Thing t : rising()) {
            if (t.count == 3) {
                t.count = Math.min(3, holders(t));
                if (t.count == 0) {
                    lose(t);
                }
            }
        }
        things.forEach(t -> t.colour = 'W');
        clear();
        traceRuns = false;
    }

    private void clear() {
        int fewest = 4;
        for (int b = 0; b < 4; b++) {
            int n = usedLines(b);
            if (n >= 1 && n < fewest) {
                fewest = n;
                cleared = b;
            }
        }
        if (cleared < 0) {
            return;
        }
        hole = null;
        overflow = null;
        for (Thing t : rising()) {
            if (t.address / 32 == cleared) {
                move(t);
            }
        }
        cleared = -1;
    }

    private int usedLines(int b) {
        int n = 0;
        for (int l = 8 * b; l < 8 * b + 8; l++) {
            n += used(l) ? 1 : 0;
        }
        return n;
    }

    private int holders(Thing t) {
        int n = 0;
        for (Thing r : roots) {
            n += r == t ? 1 : 0;
        }
        for (Thing o : things) {
            for (Thing f : o.fields) {
                n += f == t ? 1 : 0;
            }
        }
        for (Thing d : decrements) {
            n += d == t ? 1 : 0;
        }
        return n;
    }

    private void move(Thing t) {
        int place = place(t.size);
        if (place < 0) {
            return;
        }
        for (int c = t.address; c < t.address + t.size; c++) {
            linesMovedFrom.add(c / 4);
        }
        t.address = place;
        moves++;
    }

    private boolean used(int l) {
        return linesMovedFrom.contains(l)
            || things.stream().anyMatch(t -> t.address < 4 * l + 4 && t.address + t.size > 4 * l);
    }

    private static boolean within(int l, int[] lines) {
        return lines != null && l >= lines[0] && l < lines[1];
    }

    private boolean free(int l) {
        return !used(l) && !within(l, hole) && !within(l, overflow) && l / 8 != cleared;
    }

    /** Hole and overflow are told as {first line, line behind the last one, cell of the cursor}. */
    private static int take(int[] lines, int n) {
        if (lines == null || lines[2] + n > 4 * lines[1]) {
            return -1;
        }
        lines[2] += n;
        return lines[2] - n;
    }

    private int place(int n) {
        int got = take(hole, n);
        if (got >= 0) {
            return got;
        }
        if (n > 4) {
            got = take(overflow, n);
            return got >= 0 ? got : openOverflow() ? take(overflow, n) : -1;
        }
        int start = hole == null ? 0 : hole[1];
        for (int l = start; l < start + 32; l++) {
            int first = l % 32;
            if (free(first)) {
                int end = first + 1;
                while (end % 8 != 0 && free(end)) {
                    end++;
                }
                hole = new int[] {first, end, 4 * first};
                return take(hole, n);
            }
        }
        return -1;
    }

    private boolean openOverflow() {
        for (int b = 0; b < 4; b++) {
            boolean all = true;
            for (int l = 8 * b; l < 8 * b + 8; l++) {
                all &= free(l);
            }
            if (all) {
                overflow = new int[] {8 * b, 8 * b + 8, 32 * b};
                return true;
            }
        }
        return false;
    }

    /** After a pause all is old, and each count below 3 is what there is to hold the object. */
    private void watch() {
        Set<Thing> there = new HashSet<>(things);
        for (Thing t : things) {
            boolean right = !t.young && t.count >= 1 && t.count <= 3
                && (t.count == 3 ? holders(t) >= 0 : holders(t) == t.count);
            for (Thing f : t.fields) {
                right &= f == null || there.contains(f);
            }
            if (!right) {
                throw new AssertionError("a wrong count or a field that holds what is gone");
            }
        }
        if (!there.containsAll(decrements)) {
            throw new AssertionError("a decrement of what is gone");
        }
    }
}
