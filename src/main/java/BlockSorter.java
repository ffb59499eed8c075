/**
 * Sorts records on a disk of blocks with little memory. Every block that moves is counted,
 * and power may fail between any two writings.
 *
 * All rows are made in the constructor and used again, so that calls make no objects.
 */
public final class BlockSorter {
    public static final int NONE = -1, DOWN = -2;

    private static final int MOST_COLUMNS = 4;
    private static final int MOST_FAN = 8;
    private static final int MOST_TAPES = 6;
    private static final int MOST_COMING = 300;
    private static final int MOST_SPAN = 1000000000;
    private static final int MOST_WRITES = 100000;
    private static final long FACTOR = 6364136223846793005L;
    private static final long SUMMAND = 1442695040888963407L;

    private final Disk disk;
    private final Order order;
    private final Files files;
    private final Input input;
    private final Scribe scribe;
    private final Memory memory;
    private final Merger merger;
    private final Tapes deck;
    /** The RUNS in order, each known by its first block. */
    private final Row shelf;
    /** Rows that one call works with. */
    private final long[] coming;
    private final boolean[] chosen;
    private final int[] lengths;
    private int outMode;

    public BlockSorter(int blocks, int size, int memory) {
        int blockCount = within(blocks, 2, 200);
        disk = new Disk(blockCount, within(size, 5, 64));
        order = new Order(disk);
        files = new Files(disk, blockCount);
        input = new Input(disk, order, blockCount);
        scribe = new Scribe(disk, order, files, blockCount);
        this.memory = new Memory(order, within(memory, 2, 64));
        merger = new Merger(disk, order, files, scribe);
        deck = new Tapes(blockCount);
        shelf = new Row(blockCount);
        coming = new long[MOST_COLUMNS];
        chosen = new boolean[blockCount];
        lengths = new int[blockCount];
    }

    public void width(int n) throws IllegalArgumentException, IllegalStateException {
        if (n < 1 || n > MOST_COLUMNS) {
            throw new IllegalArgumentException("a record has 1 to 4 numbers");
        }
        needPower();
        if (shelf.size() > 0 || input.heldRecords() > 0) {
            throw new IllegalStateException("a record is there");
        }
        order.restart(n);
    }

    public int key(int column, boolean down)
            throws IndexOutOfBoundsException, IllegalArgumentException, IllegalStateException {
        if (column < 0 || column >= order.columns) {
            throw new IndexOutOfBoundsException("no such column");
        }
        if (order.hasKey(column)) {
            throw new IllegalArgumentException("the column is a key already");
        }
        needPower();
        if (shelf.size() > 0) {
            throw new IllegalStateException("a run is there");
        }
        return order.addKey(column, down);
    }

    public int mode(int m) throws IllegalArgumentException, IllegalStateException {
        if (m < 0 || m > 2) {
            throw new IllegalArgumentException("no such mode");
        }
        needPower();
        int before = outMode;
        outMode = m;
        return before;
    }

    public int feed(long a, long b, long c, long d)
            throws IllegalStateException, UnsupportedOperationException {
        needPower();
        setComing(0, a);
        setComing(1, b);
        setComing(2, c);
        setComing(3, d);
        int number = input.bring(coming);
        return number == NONE ? answerFor(false) : number;
    }

    public int run(long seed, int span, int n)
            throws IllegalArgumentException, IllegalStateException {
        if (span < 1 || span > MOST_SPAN || n < 0 || n > MOST_COMING) {
            throw new IllegalArgumentException("no such span or number of records");
        }
        needPower();
        long x = seed;
        for (int i = 0; i < n; i++) {
            for (int c = 0; c < order.columns; c++) {
                x = x * FACTOR + SUMMAND;
                setComing(c, (x >>> 33) % span);
            }
            if (input.bring(coming) == NONE) {
                return i;
            }
        }
        return n;
    }

    public int form(int way)
            throws IllegalArgumentException, IllegalStateException, UnsupportedOperationException {
        if (way < 0 || way > 2) {
            throw new IllegalArgumentException("no such way");
        }
        needPower();
        scribe.beginStep(outMode);
        boolean done = input.open()
                && (way == 0 ? loadRuns() : way == 1 ? chooseRuns() : copyRuns());
        if (done) {
            input.removeAll();
            scribe.addNewRuns(shelf);
        } else {
            scribe.undoStep();
            input.undoOpen();
        }
        return answerFor(done);
    }

    public int pass(int fan)
            throws IllegalArgumentException, IllegalStateException, UnsupportedOperationException {
        needFan(fan);
        needPower();
        return answerFor(mergeInGroups(fan));
    }

    public int best(int fan)
            throws IllegalArgumentException, IllegalStateException, UnsupportedOperationException {
        needFan(fan);
        needPower();
        return answerFor(mergeFewest(fan));
    }

    public int poly(int tapes)
            throws IllegalArgumentException, IllegalStateException, UnsupportedOperationException {
        if (tapes < 3 || tapes > MOST_TAPES) {
            throw new IllegalArgumentException("there are 3 to 6 tapes");
        }
        needPower();
        deck.lay(shelf, tapes);
        boolean done = true;
        for (int level = deck.level; level > 0 && done; level--) {
            done = mergeLevel();
            if (done) {
                deck.goDown();
            }
        }
        deck.collect(shelf);
        return answerFor(done);
    }

    public int plan(int fan) throws IllegalArgumentException {
        needFan(fan);
        int n = Math.min(shelf.size(), lengths.length);
        for (int i = 0; i < n; i++) {
            lengths[i] = files.heldBy(shelf.get(i));
        }
        int reads = 0;
        for (int passes = 0; passes < lengths.length && n > 1; passes++) {
            int groups = 0;
            for (int from = 0; from < n; from += fan) {
                int to = Math.min(from + fan, n);
                if (to - from > 1) {
                    reads += blocksBetween(from, to);
                }
                setLength(groups, lengthBetween(from, to));
                groups++;
            }
            n = groups;
        }
        return reads;
    }

    public int runs() {
        return shelf.size();
    }

    public int records(int run) throws IndexOutOfBoundsException {
        if (run == NONE) {
            return input.heldRecords();
        }
        needRun(run);
        return files.heldBy(shelf.get(run));
    }

    public int block(int run, int k) throws IndexOutOfBoundsException {
        if (run != NONE) {
            needRun(run);
        }
        int found = run == NONE ? input.blocks.get(k) : files.blockAt(shelf.get(run), k);
        if (found == NONE) {
            throw new IndexOutOfBoundsException("no such block");
        }
        return found;
    }

    public long told(int run, int i, int c)
            throws IndexOutOfBoundsException, IllegalStateException {
        needRun(run);
        if (i < 0 || i >= files.heldBy(shelf.get(run)) || c < 0 || c > order.columns) {
            throw new IndexOutOfBoundsException("no such record or column");
        }
        needPower();
        return look(shelf.get(run), i, c);
    }

    public int rank(int run, long value) throws IndexOutOfBoundsException, IllegalStateException {
        needRun(run);
        needPower();
        int low = 0;
        int high = files.heldBy(shelf.get(run));
        for (int looks = high; looks > 0 && low < high; looks--) {
            int middle = (low + high) / 2;
            long found = look(shelf.get(run), middle, order.firstColumn());
            if (order.isBeforeInFirstKey(found, value)) {
                low = middle + 1;
            } else {
                high = middle;
            }
        }
        return low;
    }

    public int drop(int run) throws IndexOutOfBoundsException, IllegalStateException {
        needRun(run);
        needPower();
        files.remove(shelf.get(run));
        shelf.removeAt(run);
        return shelf.size();
    }

    public int count(int what) throws IllegalArgumentException {
        switch (what) {
            case 0: return disk.reads;
            case 1: return disk.writes;
            case 2: return disk.way;
            case 3: return disk.arm;
            case 4: return disk.freeBlocks();
            case 5: return input.came;
            case 6: return order.per;
            case 7: return input.onDesk;
            case 8: return order.keys;
            case 9: return outMode;
            case 10: return order.columns;
            case 11: return disk.isDown ? 1 : 0;
            default: throw new IllegalArgumentException("nothing of this number is counted");
        }
    }

    public void crash(int n) throws IllegalArgumentException, IllegalStateException {
        if (n < NONE || n > MOST_WRITES) {
            throw new IllegalArgumentException("no such number of writes");
        }
        needPower();
        disk.writesLeft = n;
    }

    public int up() throws IllegalStateException {
        if (!disk.isDown) {
            throw new IllegalStateException("it is not down");
        }
        disk.isDown = false;
        disk.writesLeft = NONE;
        return shelf.size();
    }

    private static int within(int n, int least, int most) {
        return Math.max(least, Math.min(n, most));
    }

    private void needPower() {
        if (disk.isDown) {
            throw new IllegalStateException("it is down");
        }
    }

    private void needFan(int fan) {
        if (fan < 2 || fan > MOST_FAN) {
            throw new IllegalArgumentException("a fan is 2 to 8");
        }
    }

    private void needRun(int run) {
        if (run < 0 || run >= shelf.size()) {
            throw new IndexOutOfBoundsException("no such run");
        }
    }

    /** A step that was not done found the disk full, unless the house is down behind it. */
    private int answerFor(boolean done) {
        if (!done && !disk.isDown) {
            throw new UnsupportedOperationException("the disk is full");
        }
        return done ? shelf.size() : DOWN;
    }

    private void setComing(int column, long value) {
        if (column >= 0 && column < coming.length) {
            coming[column] = value;
        }
    }

    /** The arm stands where a block was read or written last, so a look there costs nothing. */
    private long look(int run, int i, int c) {
        int per = Math.max(1, order.per);
        int b = files.blockAt(run, i / per);
        if (b != disk.arm) {
            disk.readBlock(b);
        }
        return disk.cell(b * disk.size + i % per * order.cells + c);
    }

    private void fillMemory() {
        for (int i = 0; i < memory.room && input.unread > 0; i++) {
            memory.add(input.next(), 0);
        }
    }

    private boolean loadRuns() {
        memory.clear();
        for (int loads = input.unread; loads > 0 && input.unread > 0; loads--) {
            fillMemory();
            for (int left = memory.size; left > 0; left--) {
                if (!scribe.goOut(memory.takeFirst())) {
                    return false;
                }
            }
            if (!scribe.endRun()) {
                return false;
            }
        }
        return true;
    }

    private boolean chooseRuns() {
        memory.clear();
        int turn = 0;
        int all = input.unread;
        fillMemory();
        for (int left = all; left > 0; left--) {
            if (memory.firstTurn() != turn) {
                if (!scribe.endRun()) {
                    return false;
                }
                turn = memory.firstTurn();
            }
            int last = memory.takeFirst();
            if (!scribe.goOut(last)) {
                return false;
            }
            if (input.unread > 0) {
                int place = input.next();
                memory.add(place, order.isBefore(place, last) ? turn + 1 : turn);
            }
        }
        return scribe.endRun();
    }

    private boolean copyRuns() {
        int last = NONE;
        for (int left = input.unread; left > 0; left--) {
            int place = input.next();
            if (last != NONE && order.isBefore(place, last) && !scribe.endRun()) {
                return false;
            }
            if (!scribe.goOut(place)) {
                return false;
            }
            last = place;
        }
        return scribe.endRun();
    }

    private boolean mergeInGroups(int fan) {
        for (int at = 0; at < shelf.size(); at++) {
            int n = Math.min(fan, shelf.size() - at);
            if (n > 1) {
                merger.group.clear();
                for (int i = 0; i < n; i++) {
                    merger.group.add(shelf.get(at + i));
                }
                int merged = merger.merge(outMode);
                if (merged == NONE) {
                    return false;
                }
                shelf.set(at, merged);
                for (int i = n - 1; i > 0; i--) {
                    shelf.removeAt(at + i);
                }
            }
        }
        return true;
    }

    private boolean mergeFewest(int fan) {
        int n = shelf.size();
        int others = fan - 1;
        int take = n < 2 || others < 1 ? 0 : 2 + (n - 2) % others;
        for (int rounds = n; rounds > 1 && shelf.size() > 1; rounds--) {
            chooseFewest(take);
            int merged = merger.merge(outMode);
            if (merged == NONE) {
                return false;
            }
            for (int i = Math.min(shelf.size(), chosen.length) - 1; i >= 0; i--) {
                if (chosen[i]) {
                    shelf.removeAt(i);
                }
            }
            shelf.add(merged);
            take = fan;
        }
        return true;
    }

    /** Marks so many runs with the fewest records; they are merged in the order they stand in. */
    private void chooseFewest(int take) {
        int n = Math.min(shelf.size(), chosen.length);
        for (int i = 0; i < n; i++) {
            chosen[i] = false;
        }
        for (int left = take; left > 0; left--) {
            int fewest = NONE;
            for (int i = 0; i < n; i++) {
                if (!chosen[i] && (fewest == NONE
                        || files.heldBy(shelf.get(i)) < files.heldBy(shelf.get(fewest)))) {
                    fewest = i;
                }
            }
            if (fewest != NONE) {
                chosen[fewest] = true;
            }
        }
        merger.group.clear();
        for (int i = 0; i < n; i++) {
            if (chosen[i]) {
                merger.group.add(shelf.get(i));
            }
        }
    }

    /** A group of no run at all stands for thought ones alone: its outcome is thought too. */
    private boolean mergeLevel() {
        for (int left = deck.stepsOfLevel(); left > 0; left--) {
            deck.gatherFronts(merger.group);
            int merged = merger.group.get(0);
            if (merger.group.size() > 1) {
                merged = merger.merge(outMode);
                if (merged == NONE) {
                    return false;
                }
            }
            deck.shift(merged);
        }
        return true;
    }

    private int blocksBetween(int from, int to) {
        int sum = 0;
        for (int i = from; i < to && i >= 0 && i < lengths.length; i++) {
            sum += order.blocksFor(lengths[i]);
        }
        return sum;
    }

    private int lengthBetween(int from, int to) {
        int sum = 0;
        for (int i = from; i < to && i >= 0 && i < lengths.length; i++) {
            sum += lengths[i];
        }
        return sum;
    }

    private void setLength(int i, int length) {
        if (i >= 0 && i < lengths.length) {
            lengths[i] = length;
        }
    }

    /** A row of numbers with room for so many; what is not in it is NONE. */
    private static final class Row {
        private final int[] items;
        private int used;

        Row(int room) {
            items = new int[Math.max(0, room)];
        }

        int size() {
            return used;
        }

        void clear() {
            used = 0;
        }

        int get(int i) {
            return i >= 0 && i < used && i < items.length ? items[i] : NONE;
        }

        void set(int i, int item) {
            if (i >= 0 && i < used && i < items.length) {
                items[i] = item;
            }
        }

        void add(int item) {
            if (used >= 0 && used < items.length) {
                items[used] = item;
                used++;
            }
        }

        void removeAt(int i) {
            if (i < 0 || i >= used) {
                return;
            }
            for (int k = i; k + 1 < used && k + 1 < items.length; k++) {
                items[k] = items[k + 1];
            }
            used--;
        }
    }

    /** The blocks, the arm over them, and the power that writing needs. */
    private static final class Disk {
        private final int size;
        private final long[] cells;
        private final boolean[] taken;
        private int reads;
        private int writes;
        private int way;
        private int arm;
        /** How many more writes power lasts for; NONE: for all. */
        private int writesLeft;
        private boolean isDown;

        Disk(int blocks, int size) {
            this.size = size;
            cells = new long[Math.max(0, blocks * size)];
            taken = new boolean[Math.max(0, blocks)];
            writesLeft = NONE;
        }

        long cell(int place) {
            return place >= 0 && place < cells.length ? cells[place] : 0;
        }

        int freeBlocks() {
            int free = 0;
            for (int b = 0; b < taken.length; b++) {
                free += taken[b] ? 0 : 1;
            }
            return free;
        }

        private int leastFree() {
            for (int b = 0; b < taken.length; b++) {
                if (!taken[b]) {
                    return b;
                }
            }
            return NONE;
        }

        void release(int b) {
            if (b >= 0 && b < taken.length) {
                taken[b] = false;
            }
        }

        void readBlock(int b) {
            reads++;
            moveArm(b);
        }

        /** Writes the first cells of a page to a block that is taken: which, or NONE. */
        int store(long[] page, int n) {
            int b = leastFree();
            if (b < 0 || b >= taken.length) {
                return NONE;
            }
            if (writesLeft == 0) {
                isDown = true;
                return NONE;
            }
            if (writesLeft > 0) {
                writesLeft--;
            }
            taken[b] = true;
            writes++;
            moveArm(b);
            int place = b * size;
            for (int i = 0; i < n && i < page.length && place + i < cells.length; i++) {
                cells[place + i] = page[i];
            }
            return b;
        }

        private void moveArm(int b) {
            way += b > arm ? b - arm : arm - b;
            arm = b;
        }
    }

    /** What a record is made of, and which one is before which; a place is a cell's on the disk. */
    private static final class Order {
        private final Disk disk;
        private final int[] keyColumns;
        private final boolean[] keyDown;
        private int keys;
        private int columns;
        private int cells;
        private int per;

        Order(Disk disk) {
            this.disk = disk;
            keyColumns = new int[MOST_COLUMNS];
            keyDown = new boolean[MOST_COLUMNS];
            columns = 1;
            cells = 2;
            per = Math.max(1, disk.size / 2);
        }

        void restart(int n) {
            columns = within(n, 1, MOST_COLUMNS);
            cells = columns + 1;
            per = Math.max(1, disk.size / Math.max(1, cells));
            keys = 0;
        }

        boolean hasKey(int column) {
            for (int k = 0; k < keys && k < keyColumns.length; k++) {
                if (keyColumns[k] == column) {
                    return true;
                }
            }
            return false;
        }

        int addKey(int column, boolean down) {
            if (keys >= 0 && keys < keyColumns.length && keys < keyDown.length) {
                keyColumns[keys] = column;
                keyDown[keys] = down;
                keys++;
            }
            return keys;
        }

        boolean canSum() {
            return keys > 0 && !hasKey(columns - 1);
        }

        int blocksFor(int records) {
            return (records + per - 1) / Math.max(1, per);
        }

        int firstColumn() {
            return keys > 0 && keyColumns.length > 0 ? keyColumns[0] : 0;
        }

        boolean isBeforeInFirstKey(long mine, long value) {
            return keys > 0 && keyDown.length > 0 && keyDown[0] ? mine > value : mine < value;
        }

        boolean isBefore(int p, int q) {
            int c = compareKeys(p, q);
            return c < 0 || c == 0 && disk.cell(p + columns) < disk.cell(q + columns);
        }

        boolean isAlike(int p, int q) {
            return compareKeys(p, q) == 0;
        }

        private int compareKeys(int p, int q) {
            int n = keys == 0 ? columns : keys;
            for (int k = 0; k < n && k < keyColumns.length && k < keyDown.length; k++) {
                int column = keys == 0 ? k : keyColumns[k];
                boolean down = keys > 0 && keyDown[k];
                long mine = disk.cell(p + column);
                long other = disk.cell(q + column);
                if (mine != other) {
                    return mine < other != down ? -1 : 1;
                }
            }
            return 0;
        }
    }

    /** Runs as chains of blocks; a run is known by its first block. */
    private static final class Files {
        private final Disk disk;
        private final int[] nextBlock;
        private final int[] held;

        Files(Disk disk, int blocks) {
            this.disk = disk;
            nextBlock = new int[Math.max(0, blocks)];
            held = new int[Math.max(0, blocks)];
        }

        int heldBy(int run) {
            return run >= 0 && run < held.length ? held[run] : 0;
        }

        void setHeld(int run, int n) {
            if (run >= 0 && run < held.length) {
                held[run] = n;
            }
        }

        int behind(int b) {
            return b >= 0 && b < nextBlock.length ? nextBlock[b] : NONE;
        }

        /** Joins a block that ends the chain so far; NONE as what is before begins a chain. */
        void join(int before, int b) {
            if (before >= 0 && before < nextBlock.length) {
                nextBlock[before] = b;
            }
            if (b >= 0 && b < nextBlock.length) {
                nextBlock[b] = NONE;
            }
        }

        int blockAt(int run, int k) {
            if (k < 0 || k >= nextBlock.length) {
                return NONE;
            }
            int b = run;
            for (int i = 0; i < k; i++) {
                b = behind(b);
            }
            return b;
        }

        void remove(int run) {
            int b = run;
            for (int i = 0; i < nextBlock.length && b != NONE; i++) {
                disk.release(b);
                b = behind(b);
            }
        }
    }

    /** The records that came and are in no run yet: the INPUT's full blocks and THE DESK. */
    private static final class Input {
        private final Disk disk;
        private final Order order;
        private final Row blocks;
        private final long[] desk;
        private int onDesk;
        private int came;
        /** While runs are formed: the desk's block, what is read by now, and what is not. */
        private int deskBlock;
        private int readSoFar;
        private int unread;

        Input(Disk disk, Order order, int blockCount) {
            this.disk = disk;
            this.order = order;
            blocks = new Row(blockCount);
            desk = new long[Math.max(0, disk.size)];
            deskBlock = NONE;
        }

        int heldRecords() {
            return blocks.size() * order.per + onDesk;
        }

        /** The record's number; NONE: it did not come, and the desk is as it was. */
        int bring(long[] columns) {
            int place = onDesk * order.cells;
            for (int c = 0; c < order.columns && c < columns.length; c++) {
                setDesk(place + c, columns[c]);
            }
            setDesk(place + order.columns, came);
            if (onDesk + 1 < order.per) {
                onDesk++;
            } else {
                int b = disk.store(desk, order.per * order.cells);
                if (b == NONE) {
                    return NONE;
                }
                blocks.add(b);
                onDesk = 0;
            }
            came++;
            return came - 1;
        }

        private void setDesk(int place, long value) {
            if (place >= 0 && place < desk.length) {
                desk[place] = value;
            }
        }

        /** The desk keeps its records till all is done, as power may fail before. */
        boolean open() {
            readSoFar = 0;
            unread = heldRecords();
            deskBlock = NONE;
            if (onDesk == 0) {
                return true;
            }
            deskBlock = disk.store(desk, onDesk * order.cells);
            if (deskBlock == NONE) {
                return false;
            }
            blocks.add(deskBlock);
            return true;
        }

        void undoOpen() {
            if (deskBlock != NONE) {
                blocks.removeAt(blocks.size() - 1);
                disk.release(deskBlock);
                deskBlock = NONE;
            }
        }

        /** The next record's place on the disk. */
        int next() {
            int per = Math.max(1, order.per);
            int b = blocks.get(readSoFar / per);
            int inBlock = readSoFar % per;
            if (inBlock == 0) {
                disk.readBlock(b);
            }
            readSoFar++;
            unread--;
            return b * disk.size + inBlock * order.cells;
        }

        void removeAll() {
            for (int i = 0; i < blocks.size(); i++) {
                disk.release(blocks.get(i));
            }
            blocks.clear();
            onDesk = 0;
            deskBlock = NONE;
        }
    }

    /** Memory for records, the one that is to go out next always first: a heap of their places. */
    private static final class Memory {
        private final Order order;
        private final int room;
        private final int[] places;
        /** To which run a record belongs, counted from the first one on. */
        private final int[] turns;
        private int size;

        Memory(Order order, int room) {
            this.order = order;
            this.room = room;
            places = new int[Math.max(0, room)];
            turns = new int[Math.max(0, room)];
        }

        void clear() {
            size = 0;
        }

        int firstTurn() {
            return size > 0 && turns.length > 0 ? turns[0] : 0;
        }

        void add(int place, int turn) {
            if (size < 0 || size >= places.length || size >= turns.length) {
                return;
            }
            int hole = size;
            size++;
            for (int i = hole; i > 0; i = (i - 1) / 2) {
                int above = (i - 1) / 2;
                if (!isAhead(place, turn, above)) {
                    break;
                }
                copyTo(hole, above);
                hole = above;
            }
            put(hole, place, turn);
        }

        int takeFirst() {
            if (size < 1 || size > places.length || size > turns.length) {
                return NONE;
            }
            int first = places[0];
            size--;
            int place = places[size];
            int turn = turns[size];
            int hole = 0;
            for (int i = 1; i < size; i = 2 * hole + 1) {
                int child = i + 1 < size && isAhead(places[i + 1], turns[i + 1], i) ? i + 1 : i;
                if (isAhead(place, turn, child)) {
                    break;
                }
                copyTo(hole, child);
                hole = child;
            }
            put(hole, place, turn);
            return first;
        }

        private boolean isAhead(int place, int turn, int i) {
            if (i < 0 || i >= places.length || i >= turns.length) {
                return false;
            }
            return turn != turns[i] ? turn < turns[i] : order.isBefore(place, places[i]);
        }

        private void copyTo(int to, int from) {
            if (from >= 0 && from < places.length && from < turns.length) {
                put(to, places[from], turns[from]);
            }
        }

        private void put(int i, int place, int turn) {
            if (i >= 0 && i < places.length && i < turns.length) {
                places[i] = place;
                turns[i] = turn;
            }
        }
    }

    /** Writes the new runs of one step, page by page, and can undo them all. */
    private static final class Scribe {
        private final Disk disk;
        private final Order order;
        private final Files files;
        private final long[] page;
        private final Row stepBlocks;
        private final Row newRuns;
        private boolean folds;
        private boolean sums;
        private int onPage;
        /** The place of a record that lies behind the page's last one, till no more are alike. */
        private int waiting;
        private int firstBlock;
        private int lastBlock;
        private int held;

        Scribe(Disk disk, Order order, Files files, int blocks) {
            this.disk = disk;
            this.order = order;
            this.files = files;
            page = new long[Math.max(0, disk.size)];
            stepBlocks = new Row(blocks);
            newRuns = new Row(blocks);
        }

        void beginStep(int mode) {
            folds = mode != 0;
            sums = mode == 2 && order.canSum();
            stepBlocks.clear();
            newRuns.clear();
            beginRun();
        }

        void undoStep() {
            for (int i = 0; i < stepBlocks.size(); i++) {
                disk.release(stepBlocks.get(i));
            }
            stepBlocks.clear();
            newRuns.clear();
        }

        void addNewRuns(Row shelf) {
            for (int i = 0; i < newRuns.size(); i++) {
                shelf.add(newRuns.get(i));
            }
        }

        /** The record at a place of the disk goes out; false: its page could not be written. */
        boolean goOut(int place) {
            if (folds && waiting != NONE && order.isAlike(waiting, place)) {
                if (sums) {
                    addToWaiting(disk.cell(place + order.columns - 1));
                }
                return true;
            }
            if (!settleWaiting()) {
                return false;
            }
            int from = onPage * order.cells;
            for (int i = 0; i < order.cells && from >= 0 && from + i < page.length; i++) {
                page[from + i] = disk.cell(place + i);
            }
            waiting = place;
            return folds || settleWaiting();
        }

        boolean endRun() {
            if (!settleWaiting() || onPage > 0 && !writePage()) {
                return false;
            }
            if (firstBlock != NONE) {
                files.setHeld(firstBlock, held);
                newRuns.add(firstBlock);
            }
            beginRun();
            return true;
        }

        private void beginRun() {
            onPage = 0;
            waiting = NONE;
            firstBlock = NONE;
            lastBlock = NONE;
            held = 0;
        }

        private void addToWaiting(long more) {
            int place = onPage * order.cells + order.columns - 1;
            if (place >= 0 && place < page.length) {
                page[place] += more;
            }
        }

        private boolean settleWaiting() {
            if (waiting == NONE) {
                return true;
            }
            waiting = NONE;
            onPage++;
            held++;
            return onPage < order.per || writePage();
        }

        private boolean writePage() {
            int b = disk.store(page, onPage * order.cells);
            if (b == NONE) {
                return false;
            }
            stepBlocks.add(b);
            files.join(lastBlock, b);
            firstBlock = firstBlock == NONE ? b : firstBlock;
            lastBlock = b;
            onPage = 0;
            return true;
        }
    }

    /** Merges a group of runs to one. */
    private static final class Merger {
        private final Disk disk;
        private final Order order;
        private final Files files;
        private final Scribe scribe;
        private final Row group;
        /** Of each run of the group: its block at hand, how many went out, the next one's place. */
        private final int[] blocks;
        private final int[] gone;
        private final int[] places;

        Merger(Disk disk, Order order, Files files, Scribe scribe) {
            this.disk = disk;
            this.order = order;
            this.files = files;
            this.scribe = scribe;
            group = new Row(MOST_FAN);
            blocks = new int[MOST_FAN];
            gone = new int[MOST_FAN];
            places = new int[MOST_FAN];
        }

        /** The new run, and the group's are gone; NONE: it failed, and all is as before. */
        int merge(int mode) {
            scribe.beginStep(mode);
            boolean done = true;
            for (int left = start(); left > 0 && done; left--) {
                int i = firstAtHand();
                done = i >= 0 && i < places.length && scribe.goOut(places[i]);
                if (done) {
                    advance(i);
                }
            }
            if (!done || !scribe.endRun()) {
                scribe.undoStep();
                return NONE;
            }
            for (int i = 0; i < group.size(); i++) {
                files.remove(group.get(i));
            }
            return scribe.newRuns.get(0);
        }

        private int start() {
            int all = 0;
            for (int i = 0; i < group.size() && i < MOST_FAN; i++) {
                int run = group.get(i);
                disk.readBlock(run);
                blocks[i] = run;
                gone[i] = 0;
                places[i] = run * disk.size;
                all += files.heldBy(run);
            }
            return all;
        }

        private int firstAtHand() {
            int first = NONE;
            for (int i = 0; i < group.size() && i < MOST_FAN; i++) {
                if (places[i] != NONE
                        && (first == NONE || order.isBefore(places[i], places[first]))) {
                    first = i;
                }
            }
            return first;
        }

        private void advance(int i) {
            if (i < 0 || i >= MOST_FAN) {
                return;
            }
            gone[i]++;
            if (gone[i] >= files.heldBy(group.get(i))) {
                places[i] = NONE;
            } else if (gone[i] % Math.max(1, order.per) == 0) {
                blocks[i] = files.behind(blocks[i]);
                disk.readBlock(blocks[i]);
                places[i] = blocks[i] * disk.size;
            } else {
                places[i] += order.cells;
            }
        }
    }

    /** The tapes of POLY, counted from 1 on, with runs on them and runs that are thought. */
    private static final class Tapes {
        private final Row[] rows;
        /** How many runs a tape is to have at this level, and how many of them are thought. */
        private final int[] wanted;
        private final int[] thought;
        private int tapeCount;
        private int level;

        Tapes(int blocks) {
            rows = new Row[MOST_TAPES + 1];
            for (int j = 0; j < rows.length; j++) {
                rows[j] = new Row(blocks);
            }
            wanted = new int[MOST_TAPES + 1];
            thought = new int[MOST_TAPES + 1];
        }

        void lay(Row shelf, int n) {
            tapeCount = within(n, 3, MOST_TAPES);
            level = 1;
            for (int j = 0; j <= MOST_TAPES; j++) {
                rows[j].clear();
                wanted[j] = j > 0 && j < tapeCount ? 1 : 0;
                thought[j] = wanted[j];
            }
            int j = 1;
            for (int i = 0; i < shelf.size() && j > 0 && j < MOST_TAPES; i++) {
                rows[j].add(shelf.get(i));
                thought[j]--;
                if (i + 1 < shelf.size()) {
                    j = tapeBehind(j);
                }
            }
        }

        private int tapeBehind(int j) {
            if (j < 1 || j >= MOST_TAPES) {
                return 1;
            }
            if (thought[j] < thought[j + 1]) {
                return j + 1;
            }
            if (thought[j] == 0) {
                goUp();
            }
            return 1;
        }

        private void goUp() {
            level++;
            int x = wanted[1];
            for (int j = 1; j < tapeCount && j < MOST_TAPES; j++) {
                thought[j] = x + wanted[j + 1] - wanted[j];
                wanted[j] = x + wanted[j + 1];
            }
        }

        int stepsOfLevel() {
            return tapeCount > 0 && tapeCount <= MOST_TAPES ? wanted[tapeCount - 1] : 0;
        }

        /** Those that go from the tapes in the next step and are not thought. */
        void gatherFronts(Row group) {
            group.clear();
            for (int j = 1; j < tapeCount && j < MOST_TAPES; j++) {
                if (thought[j] == 0) {
                    group.add(rows[j].get(0));
                }
            }
        }

        /** One goes from each tape, and what they became comes to the last; NONE is thought. */
        void shift(int merged) {
            for (int j = 1; j < tapeCount && j < MOST_TAPES; j++) {
                if (thought[j] > 0) {
                    thought[j]--;
                } else {
                    rows[j].removeAt(0);
                }
            }
            if (tapeCount < 1 || tapeCount > MOST_TAPES) {
                return;
            }
            if (merged == NONE) {
                thought[tapeCount]++;
            } else {
                rows[tapeCount].add(merged);
            }
        }

        void goDown() {
            if (tapeCount < 2 || tapeCount > MOST_TAPES) {
                return;
            }
            int least = wanted[tapeCount - 1];
            Row lastRow = rows[tapeCount];
            int lastThought = thought[tapeCount];
            for (int j = tapeCount; j > 1; j--) {
                rows[j] = rows[j - 1];
                thought[j] = thought[j - 1];
                wanted[j] = wanted[j - 1] - least;
            }
            rows[1] = lastRow;
            thought[1] = lastThought;
            wanted[1] = least;
        }

        void collect(Row shelf) {
            shelf.clear();
            for (int j = 1; j <= tapeCount && j <= MOST_TAPES; j++) {
                for (int i = 0; i < rows[j].size(); i++) {
                    shelf.add(rows[j].get(i));
                }
            }
        }
    }
}
