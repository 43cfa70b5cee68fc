import java.util.NoSuchElementException;

/**
 * A heap of blocks and lines whose objects are counted at pauses only, while what is old is traced
 * step by step. The numbered promises are in the document; the words here are its words.
 */
public final class LineCollector {
    public static final int NONE = -1;

    private static final int LINE_CELLS = 4;
    private static final int BLOCK_LINES = 8;
    private static final int BLOCKS = 4;
    private static final int BLOCK_CELLS = BLOCK_LINES * LINE_CELLS;
    private static final int LINES = BLOCKS * BLOCK_LINES;
    private static final int CELLS = LINES * LINE_CELLS;
    private static final int LARGEST = 12;
    private static final int ROOTS = 6;

    private static final int TOP_COUNT = 3;
    private static final int FEW_LINES = 3;

    private static final int WHITE = 0;
    private static final int GREY = 1;
    private static final int BLACK = 2;

    // From one pause to the next a row takes in at most the roots, the fields in the log, and the
    // fields of objects that are gone (decrements) or became old (slots); no cell is twice in one of these.
    private static final int ROW_LENGTH = ROOTS + 2 * CELLS;
    private static final int MANY = 1000000;

    private final Item[] roots = new Item[ROOTS];
    private final Item[] rootsAtLastPause = new Item[ROOTS];
    private final Item[] itemAt = new Item[CELLS];
    private final Places places = new Places();
    private final Log log = new Log();
    private final Row waiting = new Row();
    private final Row slots = new Row();
    private boolean traceRuns;
    private int pauses;
    private int moves;
    private int goneAsWhite;

    public LineCollector() {
    }

    public int allocate(int root, int size, int tag)
            throws IllegalArgumentException, UnsupportedOperationException {
        if (!isRoot(root) || size < 1 || size > LARGEST) {
            throw new IllegalArgumentException();
        }
        int place = places.find(size);
        if (place == NONE) {
            collect();
            place = places.find(size);
        }
        if (place == NONE) {
            throw new UnsupportedOperationException();
        }
        Item item = new Item(size, tag);
        settle(item, place);
        roots[root] = item;
        return place;
    }

    public void drop(int root) throws IllegalArgumentException {
        if (!isRoot(root)) {
            throw new IllegalArgumentException();
        }
        roots[root] = null;
    }

    public void copy(int to, int from) throws IllegalArgumentException {
        if (!isRoot(to) || !isRoot(from)) {
            throw new IllegalArgumentException();
        }
        roots[to] = roots[from];
    }

    public int load(int to, int root, int i)
            throws IllegalArgumentException, IllegalStateException, IndexOutOfBoundsException {
        Item item = itemWithField(root, i, to);
        roots[to] = item.held[i];
        return addressOf(roots[to]);
    }

    public void store(int root, int i, int from)
            throws IllegalArgumentException, IllegalStateException, IndexOutOfBoundsException {
        Item item = itemWithField(root, i, from);
        if (item.isOld() && !item.logged[i]) {
            log.add(item, i);
        }
        item.held[i] = roots[from];
    }

    public int drain(int n) throws IllegalArgumentException {
        if (n < 0) {
            throw new IllegalArgumentException();
        }
        drainUpTo(n);
        return waiting.length;
    }

    public int trace(int n) throws IllegalArgumentException, IllegalStateException {
        if (n < 0) {
            throw new IllegalArgumentException();
        }
        if (!traceRuns) {
            throw new IllegalStateException();
        }
        stepUpTo(n);
        return countGrey();
    }

    public int pause(boolean begins) {
        pauses++;
        drainUpTo(MANY);
        places.close();
        int grown = countSlots();
        loseYoung();
        queueRootsAndLog();
        if (traceRuns && countGrey() == 0) {
            loseWhite();
            recountStuck();
            whitenAll();
            clearSparsestBlock();
            traceRuns = false;
        }
        if (begins && !traceRuns) {
            beginTrace();
        }
        places.close();
        rememberRoots();
        return grown;
    }

    public int root(int r) throws IllegalArgumentException {
        if (!isRoot(r)) {
            throw new IllegalArgumentException();
        }
        return addressOf(roots[r]);
    }

    public int field(int address, int i) throws NoSuchElementException, IndexOutOfBoundsException {
        Item item = itemOrNull(address);
        if (item == null) {
            throw new NoSuchElementException();
        }
        if (!item.hasField(i)) {
            throw new IndexOutOfBoundsException();
        }
        return addressOf(item.held[i]);
    }

    public int object(int address, int what) throws IllegalArgumentException, NoSuchElementException {
        if (what < 0 || what > 3) {
            throw new IllegalArgumentException();
        }
        Item item = itemOrNull(address);
        if (item == null) {
            throw new NoSuchElementException();
        }
        switch (what) {
            case 0:
                return item.size;
            case 1:
                return item.tag;
            case 2:
                return item.count;
            default:
                return item.colour;
        }
    }

    public int line(int l) throws IndexOutOfBoundsException {
        if (l < 0 || l >= LINES) {
            throw new IndexOutOfBoundsException();
        }
        if (places.isUsed(l)) {
            return 1;
        }
        return places.isFree(l) ? 0 : 2;
    }

    public int figure(int k) throws IllegalArgumentException {
        switch (k) {
            case 0:
                return countItems();
            case 1:
                return countYoung();
            case 2:
                return waiting.length;
            case 3:
                return log.length;
            case 4:
                return pauses;
            case 5:
                return traceRuns ? 1 : 0;
            case 6:
                return moves;
            case 7:
                return goneAsWhite;
            case 8:
                return countGrey();
            default:
                throw new IllegalArgumentException();
        }
    }

    private static boolean isRoot(int r) {
        return r >= 0 && r < ROOTS;
    }

    private Item itemWithField(int root, int i, int otherRoot) {
        if (!isRoot(root) || !isRoot(otherRoot)) {
            throw new IllegalArgumentException();
        }
        Item item = roots[root];
        if (item == null) {
            throw new IllegalStateException();
        }
        if (!item.hasField(i)) {
            throw new IndexOutOfBoundsException();
        }
        return item;
    }

    private static int addressOf(Item item) {
        return item == null ? NONE : item.address;
    }

    private Item itemOrNull(int address) {
        return address >= 0 && address < CELLS ? itemAt[address] : null;
    }

    private int countItems() {
        int n = 0;
        for (Item item : itemAt) {
            if (item != null) {
                n++;
            }
        }
        return n;
    }

    private int countYoung() {
        int n = 0;
        for (Item item : itemAt) {
            if (item != null && !item.isOld()) {
                n++;
            }
        }
        return n;
    }

    private int countGrey() {
        int n = 0;
        for (Item item : itemAt) {
            if (item != null && item.colour == GREY) {
                n++;
            }
        }
        return n;
    }

    private void settle(Item item, int place) {
        item.address = place;
        itemAt[place] = item;
        places.occupy(place, item.size);
    }

    private void moveTo(Item item, int place) {
        if (place == NONE) {
            return;
        }
        itemAt[item.address] = null;
        places.moveOut(item.address, item.size);
        settle(item, place);
        moves++;
    }

    private void remove(Item item) {
        itemAt[item.address] = null;
        places.vacate(item.address, item.size);
    }

    private void collect() {
        pause(true);
        stepUpTo(MANY);
        pause(false);
        drainUpTo(MANY);
    }

    private void drainUpTo(int n) {
        for (int i = 0; i < n && waiting.length > 0; i++) {
            Item item = waiting.takeFirst();
            if (item == null || item.count == TOP_COUNT) {
                continue;
            }
            item.count--;
            if (item.count == 0) {
                letGo(item);
            }
        }
    }

    private void letGo(Item item) {
        remove(item);
        for (Item held : item.held) {
            if (held == null) {
                continue;
            }
            waiting.add(held);
            // Otherwise the trace would miss what only this object still led to.
            if (item.colour == GREY) {
                held.turnGreyIfWhite();
            }
        }
    }

    private void stepUpTo(int n) {
        boolean more = true;
        for (int i = 0; i < n && more; i++) {
            more = blackenFirstGrey();
        }
    }

    private boolean blackenFirstGrey() {
        for (Item item : itemAt) {
            if (item != null && item.colour == GREY) {
                blacken(item);
                return true;
            }
        }
        return false;
    }

    private static void blacken(Item item) {
        item.colour = BLACK;
        for (Item held : item.held) {
            if (held != null) {
                held.turnGreyIfWhite();
            }
        }
    }

    private void rememberRoots() {
        for (int r = 0; r < ROOTS; r++) {
            rootsAtLastPause[r] = roots[r];
        }
    }

    private void beginTrace() {
        traceRuns = true;
        for (Item item : roots) {
            if (item != null) {
                item.turnGreyIfWhite();
            }
        }
    }

    private int countSlots() {
        gatherSlots();
        int grown = 0;
        for (int i = 0; i < ROW_LENGTH && i < slots.length; i++) {
            Item item = slots.get(i);
            if (item == null) {
                continue;
            }
            if (item.isOld()) {
                item.count = Math.min(item.count + 1, TOP_COUNT);
                continue;
            }
            grown++;
            item.growOld(traceRuns ? BLACK : WHITE);
            moveTo(item, places.find(item.size));
            addFieldsToSlots(item);
        }
        places.forgetMovedOut();
        return grown;
    }

    private void gatherSlots() {
        slots.clear();
        for (Item item : roots) {
            slots.add(item);
        }
        for (int i = 0; i < log.length; i++) {
            slots.add(log.heldNow(i));
        }
    }

    private void addFieldsToSlots(Item item) {
        for (Item held : item.held) {
            slots.add(held);
        }
    }

    private void loseYoung() {
        for (Item item : itemAt) {
            if (item != null && !item.isOld()) {
                remove(item);
            }
        }
    }

    private void queueRootsAndLog() {
        for (Item item : rootsAtLastPause) {
            if (item != null) {
                waiting.add(item);
            }
        }
        for (int i = 0; i < log.length; i++) {
            Item before = log.heldBefore(i);
            if (before == null) {
                continue;
            }
            waiting.add(before);
            if (traceRuns) {
                before.turnGreyIfWhite();
            }
        }
        log.clear();
    }

    private void loseWhite() {
        for (Item item : itemAt) {
            if (item == null || !item.isWhite()) {
                continue;
            }
            remove(item);
            goneAsWhite++;
            for (Item held : item.held) {
                if (held != null && !held.isWhite()) {
                    waiting.add(held);
                }
            }
        }
    }

    private void recountStuck() {
        for (Item item : itemAt) {
            if (item == null || item.count != TOP_COUNT) {
                continue;
            }
            item.count = Math.min(countHolders(item), TOP_COUNT);
            if (item.count == 0) {
                letGo(item);
            }
        }
    }

    private int countHolders(Item item) {
        int n = waiting.countOf(item);
        for (Item root : roots) {
            if (root == item) {
                n++;
            }
        }
        for (Item other : itemAt) {
            if (other != null) {
                n += other.countFieldsHolding(item);
            }
        }
        return n;
    }

    private void whitenAll() {
        for (Item item : itemAt) {
            if (item != null) {
                item.colour = WHITE;
            }
        }
    }

    private void clearSparsestBlock() {
        int block = places.sparsestBlock();
        if (block == NONE) {
            return;
        }
        places.close();
        places.shut(block);
        for (int i = 0; i < BLOCK_CELLS; i++) {
            Item item = itemAt[block * BLOCK_CELLS + i];
            if (item != null) {
                moveTo(item, places.find(item.size));
            }
        }
        places.shut(NONE);
        places.forgetMovedOut();
    }

    /** An object of the heap; a count of 0 marks it as young. */
    private static final class Item {
        final int size;
        final int tag;
        final Item[] held;
        final boolean[] logged;
        int address;
        int count;
        int colour;

        Item(int size, int tag) {
            this.size = size;
            this.tag = tag;
            this.held = new Item[size];
            this.logged = new boolean[size];
        }

        boolean hasField(int i) {
            return i >= 0 && i < size;
        }

        boolean isOld() {
            return count > 0;
        }

        boolean isWhite() {
            return isOld() && colour == WHITE;
        }

        void growOld(int newColour) {
            count = 1;
            colour = newColour;
        }

        void turnGreyIfWhite() {
            if (isWhite()) {
                colour = GREY;
            }
        }

        int countFieldsHolding(Item other) {
            int n = 0;
            for (Item item : held) {
                if (item == other) {
                    n++;
                }
            }
            return n;
        }
    }

    /** A row of objects, or of nothings, that is filled behind and emptied in front. */
    private static final class Row {
        private final Item[] items = new Item[ROW_LENGTH];
        private int first;
        int length;

        void add(Item item) {
            if (length < ROW_LENGTH) {
                items[(first + length) % ROW_LENGTH] = item;
                length++;
            }
        }

        Item get(int i) {
            return i >= 0 && i < length ? items[(first + i) % ROW_LENGTH] : null;
        }

        Item takeFirst() {
            if (length == 0) {
                return null;
            }
            Item item = items[first];
            first = (first + 1) % ROW_LENGTH;
            length--;
            return item;
        }

        int countOf(Item item) {
            int n = 0;
            for (int i = 0; i < length; i++) {
                if (items[(first + i) % ROW_LENGTH] == item) {
                    n++;
                }
            }
            return n;
        }

        void clear() {
            first = 0;
            length = 0;
        }
    }

    /** The fields of old objects that were stored into since the latest pause, with what they held. */
    private static final class Log {
        private final Item[] items = new Item[CELLS];
        private final int[] fields = new int[CELLS];
        private final Item[] before = new Item[CELLS];
        int length;

        void add(Item item, int i) {
            if (length < CELLS) {
                items[length] = item;
                fields[length] = i;
                before[length] = item.held[i];
                item.logged[i] = true;
                length++;
            }
        }

        Item heldNow(int k) {
            return items[k].held[fields[k]];
        }

        Item heldBefore(int k) {
            return before[k];
        }

        void clear() {
            for (int k = 0; k < length; k++) {
                items[k].logged[fields[k]] = false;
            }
            length = 0;
        }
    }

    /** A row of lines of one block with a cursor, told in cells; none if it is empty. */
    private static final class Span {
        private int start;
        private int cursor;
        private int end;

        void open(int firstLine, int endLine) {
            start = firstLine * LINE_CELLS;
            cursor = start;
            end = endLine * LINE_CELLS;
        }

        boolean has(int n) {
            return end - cursor >= n;
        }

        int take(int n) {
            int place = cursor;
            cursor += n;
            return place;
        }

        boolean covers(int l) {
            return l * LINE_CELLS >= start && l * LINE_CELLS < end;
        }

        int endLine() {
            return end / LINE_CELLS;
        }
    }

    /** Which lines are used, and where the next objects go. */
    private static final class Places {
        private final int[] cellsOwned = new int[LINES];
        private final boolean[] movedOut = new boolean[LINES];
        private final Span hole = new Span();
        private final Span overflow = new Span();
        private int shutBlock = NONE;

        boolean isUsed(int l) {
            return cellsOwned[l] > 0 || movedOut[l];
        }

        boolean isFree(int l) {
            return cellsOwned[l] == 0 && !movedOut[l] && l / BLOCK_LINES != shutBlock
                    && !hole.covers(l) && !overflow.covers(l);
        }

        void occupy(int place, int n) {
            for (int cell = place; cell < place + n; cell++) {
                cellsOwned[cell / LINE_CELLS]++;
            }
        }

        void vacate(int place, int n) {
            for (int cell = place; cell < place + n; cell++) {
                cellsOwned[cell / LINE_CELLS]--;
            }
        }

        void moveOut(int place, int n) {
            for (int cell = place; cell < place + n; cell++) {
                cellsOwned[cell / LINE_CELLS]--;
                movedOut[cell / LINE_CELLS] = true;
            }
        }

        void forgetMovedOut() {
            for (int l = 0; l < LINES; l++) {
                movedOut[l] = false;
            }
        }

        void close() {
            hole.open(0, 0);
            overflow.open(0, 0);
        }

        void shut(int block) {
            shutBlock = block;
        }

        int find(int n) {
            if (hole.has(n)) {
                return hole.take(n);
            }
            if (n <= LINE_CELLS) {
                return openHole() ? hole.take(n) : NONE;
            }
            if (overflow.has(n) || openOverflow()) {
                return overflow.take(n);
            }
            return NONE;
        }

        private boolean openHole() {
            int from = hole.endLine();
            for (int i = 0; i < LINES; i++) {
                int l = (from + i) % LINES;
                if (isFree(l)) {
                    int blockEnd = (l / BLOCK_LINES + 1) * BLOCK_LINES;
                    int end = l + 1;
                    while (end < blockEnd && isFree(end)) {
                        end++;
                    }
                    hole.open(l, end);
                    return true;
                }
            }
            return false;
        }

        private boolean openOverflow() {
            for (int b = 0; b < BLOCKS; b++) {
                int free = 0;
                for (int l = b * BLOCK_LINES; l < (b + 1) * BLOCK_LINES; l++) {
                    if (isFree(l)) {
                        free++;
                    }
                }
                if (free == BLOCK_LINES) {
                    overflow.open(b * BLOCK_LINES, (b + 1) * BLOCK_LINES);
                    return true;
                }
            }
            return false;
        }

        int sparsestBlock() {
            int best = NONE;
            int fewest = FEW_LINES + 1;
            for (int b = 0; b < BLOCKS; b++) {
                int used = usedLines(b);
                if (used > 0 && used < fewest) {
                    best = b;
                    fewest = used;
                }
            }
            return best;
        }

        private int usedLines(int b) {
            int used = 0;
            for (int l = b * BLOCK_LINES; l < (b + 1) * BLOCK_LINES; l++) {
                if (isUsed(l)) {
                    used++;
                }
            }
            return used;
        }
    }
}
