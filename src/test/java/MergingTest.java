/**
 * The boundaries that the document names under 'Terms' for MERGING, with a PASS, BEST and POLY
 * (part 3): one test for each sentence, in its order, with answers counted by hand.
 */
public final class MergingTest extends Bench {
    private MergingTest() {
    }

    public static void main(String[] args) {
        firstBlocksAreRead();
        nextBlockIfThereIsOne();
        mergedRunsAreGone();
        fans();
        passInGroups();
        aloneInAPass();
        bestTheFirstTime();
        bestOfTheFewest();
        bestBehindAll();
        tapes();
        polyOfOneLevel();
        polyALevelMore();
        polyWithThoughtOnes();
        polyOnManyLevels();
        Due.end();
    }

    private static void firstBlocksAreRead() {
        BlockSorter x = fallingRuns(20, 3);
        Due.is("first blocks", allBlocks(x) + ", " + moves(x), "3 | 4 | 5, 3 6 17 5");
        x.crash(0);
        x.pass(3);
        // read 3 (2), 4 (1), 5 (1), and the first page is not written
        Due.is("the first block of each is READ, in their order", moves(x), "6 6 21 5");
    }

    private static void nextBlockIfThereIsOne() {
        BlockSorter x = new BlockSorter(20, 5, 64);
        feedAll(x, 1, 4, 5);
        x.form(0);
        feedAll(x, 3);
        x.form(0);
        Due.is("next block: RUNS", allBlocks(x) + ", " + x.count(3), "2 3 | 1, 1");
        int reads = x.count(0);
        int way = x.count(2);
        // read 2 (1), 1 (1); 1 3 written to 0 (1); behind 4 read 3 (3); 4 5 written to 4 (1)
        x.pass(2);
        Due.is("the next block, if there is one", x.count(0) - reads, 3);
        Due.is("the next block, at once", x.count(2) - way, 7);
        Due.is("the next block: the RUN", allBlocks(x) + ", " + contents(x), "0 4, 1 3 4 5");
    }

    private static void mergedRunsAreGone() {
        BlockSorter fits = fallingRuns(4, 2);
        Due.is("their blocks are free when it is done", fits.pass(2), 1);
        Due.is("their blocks are free: blocks", allBlocks(fits) + ", " + fits.count(4), "0 1, 2");
        BlockSorter tight = fallingRuns(4, 2);
        feedAll(tight, 9);
        Due.full("their blocks are not free before", () -> tight.pass(2));
        Due.full("their blocks are not free before: best", () -> tight.best(2));
        Due.full("their blocks are not free before: poly", () -> tight.poly(3));
        Due.is("their blocks are not free before: RUNS", allBlocks(tight) + ", " + contents(tight),
                "2 | 3, 2 | 1");
    }

    private static void fans() {
        for (int fan = 2; fan <= 8; fan++) {
            Due.is("FAN " + fan + ": a PASS", fallingRuns(40, 9).pass(fan), (9 + fan - 1) / fan);
            Due.is("FAN " + fan + ": BEST", fallingRuns(40, 9).best(fan), 1);
        }
        BlockSorter x = fallingRuns(40, 9);
        for (int fan : new int[] {Integer.MIN_VALUE, -2, -1, 0, 1, 9, Integer.MAX_VALUE}) {
            unchanged(x, "FAN " + fan, "IllegalArgumentException", () -> x.pass(fan));
            unchanged(x, "FAN " + fan + ": BEST", "IllegalArgumentException", () -> x.best(fan));
            unchanged(x, "FAN " + fan + ": plan", "IllegalArgumentException", () -> x.plan(fan));
        }
    }

    private static void passInGroups() {
        int[][] runsFanLeftReads = {
            {0, 2, 0, 0}, {1, 2, 1, 0}, {2, 3, 1, 2}, {3, 3, 1, 3}, {4, 3, 2, 3}, {5, 3, 2, 5},
            {6, 3, 2, 6}, {7, 3, 3, 6}, {8, 8, 1, 8}, {9, 8, 2, 8}, {10, 8, 2, 10}, {5, 2, 3, 4},
        };
        for (int[] row : runsFanLeftReads) {
            BlockSorter x = fallingRuns(40, row[0]);
            int reads = x.count(0);
            String what = "groups of " + row[1] + " from " + row[0];
            Due.is(what, x.pass(row[1]), row[2]);
            Due.is(what + ": runs()", x.runs(), row[2]);
            Due.is(what + ": READS", x.count(0) - reads, row[3]);
        }
        BlockSorter x = fallingRuns(40, 5);
        x.pass(2);
        Due.is("the new RUN stands in the group's place", contents(x), "4 5 | 2 3 | 1");
    }

    private static void aloneInAPass() {
        BlockSorter x = fallingRuns(40, 3);
        String block = blocks(x, 2);
        x.pass(2);
        Due.is("a RUN alone stays as it is", blocks(x, 1), block);
        BlockSorter y = fallingRuns(40, 1);
        String before = state(y);
        y.mode(0);
        y.pass(8);
        Due.is("the only RUN stays as it is", state(y), before);
        BlockSorter twins = new BlockSorter(20, 5, 2);
        feedAll(twins, 3, 3);
        twins.form(0);
        twins.mode(1);
        twins.pass(2);
        Due.is("a RUN alone keeps what is ALIKE", contents(twins), "3 3");
    }

    private static void bestTheFirstTime() {
        int[][] runsFanReads = {
            {0, 8, 0}, {1, 8, 0}, {2, 2, 2}, {2, 8, 2}, {3, 2, 5}, {3, 3, 3}, {4, 3, 6},
            {8, 8, 8}, {9, 8, 11}, {15, 8, 23}, {16, 8, 26},
        };
        for (int[] row : runsFanReads) {
            BlockSorter x = fallingRuns(60, row[0]);
            int reads = x.count(0);
            String what = "2 + (n - 2) % (f - 1), n " + row[0] + " f " + row[1];
            Due.is(what, x.best(row[1]), Math.min(1, row[0]));
            Due.is(what + ": READS", x.count(0) - reads, row[2]);
        }
    }

    /** RUNS of so many records each, on blocks of one record. */
    private static BlockSorter runsOf(int... lengths) {
        BlockSorter x = new BlockSorter(60, 5, 2);
        x.width(4);
        for (int i = 0; i < lengths.length; i++) {
            for (int k = 0; k < lengths[i]; k++) {
                x.feed((lengths.length - i) * 10 + k, 0, 0, 0);
            }
        }
        x.form(2);
        return x;
    }

    private static String lengths(BlockSorter x) {
        StringBuilder text = new StringBuilder();
        for (int r = 0; r < x.runs(); r++) {
            text.append(r == 0 ? "" : " ").append(x.records(r));
        }
        return text.toString();
    }

    private static void bestOfTheFewest() {
        BlockSorter x = runsOf(3, 1, 2);
        x.crash(3);
        x.best(2);
        x.up();
        Due.is("those with the fewest records", contents(x), "30 31 32 | 10 11 20");
        BlockSorter y = runsOf(2, 1, 2, 1, 1);
        y.crash(2);
        y.best(2);
        Due.is("of the same number those that stand first", lengths(y), "2 2 1 2");
        BlockSorter z = runsOf(2, 3, 2, 2, 2);
        z.crash(4);
        z.best(2);
        Due.is("of the same number: also of more", lengths(z), "3 2 2 4");
    }

    private static void bestBehindAll() {
        BlockSorter x = runsOf(1, 1, 2, 2);
        x.crash(2);
        x.best(2);
        x.up();
        Due.is("the new RUN comes behind all", contents(x), "20 21 | 10 11 | 30 40");
        BlockSorter y = runsOf(1, 1, 2, 2);
        y.crash(6);
        y.best(2);
        y.up();
        Due.is("it stands behind those of the same number", contents(y), "30 40 | 10 11 20 21");
        BlockSorter z = runsOf(1, 1, 1, 1);
        z.crash(5);
        z.best(3);
        Due.is("f the second time", lengths(z), "1 1 2");
        z.up();
        Due.is("f the second time: all", z.best(3), 1);
    }

    private static void tapes() {
        for (int n = 3; n <= 6; n++) {
            Due.is("TAPES " + n, fallingRuns(60, 20).poly(n), 1);
        }
        BlockSorter x = fallingRuns(20, 4);
        for (int n : new int[] {Integer.MIN_VALUE, -1, 0, 1, 2, 7, Integer.MAX_VALUE}) {
            unchanged(x, "TAPES " + n, "IllegalArgumentException", () -> x.poly(n));
        }
    }

    private static void polyOfOneLevel() {
        for (int tapes = 3; tapes <= 6; tapes++) {
            for (int n = 0; n < tapes; n++) {
                BlockSorter x = fallingRuns(40, n);
                int reads = x.count(0);
                String what = "one LEVEL, tapes " + tapes + ", RUNS " + n;
                Due.is(what, x.poly(tapes), Math.min(1, n));
                Due.is(what + ": READS", x.count(0) - reads, n < 2 ? 0 : n);
            }
        }
        BlockSorter alone = fallingRuns(20, 1);
        String before = state(alone);
        alone.poly(3);
        Due.is("one alone goes there as it is", state(alone), before);
    }

    private static void polyALevelMore() {
        BlockSorter three = fallingRuns(40, 3);
        int reads = three.count(0);
        // tapes: 3 1 and 2; 3 with 2, then 2 3 with 1
        three.poly(3);
        Due.is("a LEVEL more: READS", three.count(0) - reads, 2 + 3);
        BlockSorter six = fallingRuns(40, 6);
        reads = six.count(0);
        // a is 2 2 2 2 1, d is 0 1 1 1 0: 6 goes with 2, then 2 6 with 1, 5, 4, 3
        six.poly(6);
        Due.is("a LEVEL more of six tapes: READS", six.count(0) - reads, 2 + 6);
        BlockSorter broken = fallingRuns(40, 6);
        broken.crash(2);
        broken.poly(6);
        broken.up();
        Due.is("tape T becomes tape 1, 1 becomes 2", contents(broken), "2 6 | 1 | 5 | 4 | 3");
        BlockSorter laid = fallingRuns(40, 6);
        laid.crash(0);
        laid.poly(6);
        laid.up();
        Due.is("laid on tapes", contents(laid), "6 | 1 | 5 | 4 | 3 | 2");
    }

    /** Six RUNS of 3 tapes: thought, 6 4 3 1 on tape 1; thought, 5 2 on tape 2. */
    private static String sixOfThreeTapes(int writes) {
        BlockSorter x = fallingRuns(40, 6);
        x.crash(writes);
        x.poly(3);
        x.up();
        return contents(x);
    }

    private static void polyWithThoughtOnes() {
        BlockSorter x = fallingRuns(40, 6);
        int reads = x.count(0);
        // two thought ones; 6 5; 4 2; the thought one and 3 alone; 5 6 with 1; 3 with 2 4; all
        x.poly(3);
        Due.is("RUNS that are thought: READS", x.count(0) - reads, 2 + 2 + 3 + 3 + 6);
        Due.is("RUNS that are thought: all", contents(x), "1 2 3 4 5 6");
        Due.is("thought ones are before those of each tape", sixOfThreeTapes(0),
                "6 | 4 | 3 | 1 | 5 | 2");
        Due.is("the first merging of thought ones", sixOfThreeTapes(2), "4 | 3 | 1 | 2 | 5 6");
        Due.is("one alone goes behind those of tape T", sixOfThreeTapes(4), "5 6 | 2 4 | 1 | 3");
        Due.is("two LEVELS below", sixOfThreeTapes(7), "3 | 1 5 6 | 2 4");
        Due.is("three LEVELS below", sixOfThreeTapes(10), "2 3 4 | 1 5 6");
    }

    private static void polyOnManyLevels() {
        for (int tapes = 3; tapes <= 6; tapes++) {
            BlockSorter x = fallingRuns(200, 99);
            Due.is("many LEVELS, tapes " + tapes, x.poly(tapes), 1);
            boolean inOrder = x.records(0) == 99;
            for (int i = 0; i < x.records(0); i++) {
                inOrder &= x.told(0, i, 0) == i + 1;
            }
            Due.is("many LEVELS: in order, tapes " + tapes, inOrder ? 1 : 0, 1);
        }
    }
}
