/** What the tests lay on the bench and how they look at it; tests stand on it by extending it. */
abstract class Bench {
    static final int NONE = BlockSorter.NONE;
    static final int DOWN = BlockSorter.DOWN;

    static void feedAll(BlockSorter x, long... values) {
        for (long v : values) {
            x.feed(v, 0, 0, 0);
        }
    }

    /** READS, WRITES, WAY and the arm's place. */
    static String moves(BlockSorter x) {
        return x.count(0) + " " + x.count(1) + " " + x.count(2) + " " + x.count(3);
    }

    static String blocks(BlockSorter x, int run) {
        StringBuilder text = new StringBuilder();
        int per = x.count(6);
        int held = run == NONE ? x.records(run) - x.count(7) : x.records(run);
        for (int k = 0; k * per < held; k++) {
            text.append(k == 0 ? "" : " ").append(x.block(run, k));
        }
        return text.toString();
    }

    /** The blocks of every run. */
    static String allBlocks(BlockSorter x) {
        StringBuilder text = new StringBuilder();
        for (int r = 0; r < x.runs(); r++) {
            text.append(r == 0 ? "" : " | ").append(blocks(x, r));
        }
        return text.toString();
    }

    /** Column 0 of the records of every run; the arm moves for it. */
    static String contents(BlockSorter x) {
        return contents(x, 0);
    }

    static String contents(BlockSorter x, int column) {
        StringBuilder text = new StringBuilder();
        for (int r = 0; r < x.runs(); r++) {
            text.append(r == 0 ? "" : " | ");
            for (int i = 0; i < x.records(r); i++) {
                text.append(i == 0 ? "" : " ").append(x.told(r, i, column));
            }
        }
        return text.toString();
    }

    /** All that can be asked without moving the arm. */
    static String state(BlockSorter x) {
        StringBuilder text = new StringBuilder();
        for (int what = 0; what < 12; what++) {
            text.append(x.count(what)).append(' ');
        }
        text.append("input ").append(x.records(NONE)).append(": ").append(blocks(x, NONE));
        for (int r = 0; r < x.runs(); r++) {
            text.append(", run ").append(x.records(r)).append(": ").append(blocks(x, r));
        }
        return text.toString();
    }

    /** PER is 2: five records on blocks 0, 1 and the desk, memory for 2. */
    static BlockSorter five() {
        BlockSorter x = new BlockSorter(10, 5, 2);
        feedAll(x, 5, 3, 7, 1, 2);
        return x;
    }

    /** Runs as they are, of 3, 1, 2 and 1 records: 7 8 9 | 6 | 4 5 | 3. */
    static BlockSorter fourRuns(int blocks) {
        BlockSorter x = new BlockSorter(blocks, 5, 2);
        feedAll(x, 7, 8, 9, 6, 4, 5, 3);
        x.form(2);
        return x;
    }

    /** PER is 1: so many runs of one record each, n, n - 1, .., 1, on a block each. */
    static BlockSorter fallingRuns(int blocks, int n) {
        BlockSorter x = new BlockSorter(blocks, 5, 2);
        x.width(4);
        for (int i = n; i > 0; i--) {
            x.feed(i, 0, 0, 0);
        }
        x.form(2);
        return x;
    }

    /** A call that throws by its arguments or by the state leaves all as it was. */
    static void unchanged(BlockSorter x, String what, String kind, Due.Deed deed) {
        String before = state(x);
        Due.is(what, Due.kindOf(deed), kind);
        Due.is(what + ": nothing is changed", state(x), before);
    }
}
