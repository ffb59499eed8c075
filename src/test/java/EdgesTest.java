import java.math.BigInteger;

/**
 * The boundaries that the document names under 'Promise 1' to 'Promise 20': one test for each
 * sentence that has one. Those that a promise takes from the terms stand in the tests of these.
 */
public final class EdgesTest extends Bench {
    private static final String INDEX = "IndexOutOfBoundsException";
    private static final String ARGUMENT = "IllegalArgumentException";
    private static final String STATE = "IllegalStateException";

    private EdgesTest() {
    }

    public static void main(String[] args) {
        nearestBlocks();
        nearestSize();
        nearestMemory();
        widthTakesTheKeys();
        widthWithARecord();
        widthWhileDown();
        ordersWithoutTheKeysBefore();
        keyColumn();
        keyAlready();
        keyWithARun();
        modes();
        feedTheFirstNumbers();
        feedThatDoesNotCome();
        runLimits();
        runNumbers();
        runEndsEarly();
        formWays();
        mergingAnswers();
        planOfFewRuns();
        planOfGroups();
        runsCounted();
        recordsOfARun();
        blockOfARun();
        toldLimits();
        toldReads();
        rankOfEdges();
        rankByHalves();
        rankDown();
        dropLimits();
        counts();
        crashLimits();
        crashAnew();
        upLimits();
        Due.end();
    }

    // ---- promise 1

    private static void nearestBlocks() {
        int[][] given = {{Integer.MIN_VALUE, 2}, {-1, 2}, {0, 2}, {1, 2}, {2, 2}, {3, 3},
            {199, 199}, {200, 200}, {201, 200}, {Integer.MAX_VALUE, 200}};
        for (int[] g : given) {
            BlockSorter x = new BlockSorter(g[0], 5, 2);
            x.width(4);
            Due.is("1 blocks " + g[0], x.count(4), g[1]);
            Due.is("1 blocks " + g[0] + ": so many are written", x.run(1, 9, 300), g[1]);
        }
    }

    private static void nearestSize() {
        // SIZE and PER of WIDTH 1 and of WIDTH 4
        int[][] given = {{Integer.MIN_VALUE, 2, 1}, {-1, 2, 1}, {0, 2, 1}, {4, 2, 1}, {5, 2, 1},
            {6, 3, 1}, {63, 31, 12}, {64, 32, 12}, {65, 32, 12}, {Integer.MAX_VALUE, 32, 12}};
        for (int[] g : given) {
            BlockSorter x = new BlockSorter(3, g[0], 2);
            Due.is("1 SIZE " + g[0], x.count(6), g[1]);
            x.width(4);
            Due.is("1 SIZE " + g[0] + " of WIDTH 4", x.count(6), g[2]);
            Due.is("1 SIZE " + g[0] + ": came", x.run(1, 9, g[2]), g[2]);
            Due.is("1 SIZE " + g[0] + ": written", x.count(1) + " " + x.count(7), "1 0");
            BlockSorter y = new BlockSorter(9, g[0], 2);
            y.width(4);
            y.feed(2, 12, 13, 14);
            y.feed(1, 22, 23, 24);
            y.form(0);
            Due.is("1 SIZE " + g[0] + ": a block holds a whole record", contents(y, 3) + ", "
                    + contents(y, 4), "24 14, 1 0");
        }
    }

    private static void nearestMemory() {
        int[][] given = {{Integer.MIN_VALUE, 2}, {-1, 2}, {0, 2}, {1, 2}, {2, 2}, {3, 3}, {63, 63},
            {64, 64}, {65, 64}, {Integer.MAX_VALUE, 64}};
        for (int[] g : given) {
            BlockSorter x = new BlockSorter(20, 64, g[0]);
            x.run(1, 1000, g[1] + 1);
            Due.is("1 MEMORY " + g[0], x.form(0), 2);
            Due.is("1 MEMORY " + g[0] + ": records", x.records(0) + " " + x.records(1),
                    g[1] + " 1");
        }
    }

    // ---- promise 2

    private static void widthTakesTheKeys() {
        BlockSorter x = new BlockSorter(9, 20, 2);
        x.width(2);
        x.key(1, true);
        x.key(0, false);
        unchanged(x, "2 a wrong WIDTH leaves the KEYS", ARGUMENT, () -> x.width(5));
        x.width(2);
        Due.is("2 no KEYS, also with the same WIDTH", x.count(8), 0);
        Due.is("2 and a column may be a KEY again", x.key(1, false), 1);
        x.width(1);
        Due.index("2 fewer columns", () -> x.key(1, false));
        Due.is("2 the MODE stays", x.mode(2) + " " + x.count(9), "0 2");
        x.width(4);
        Due.is("2 the MODE stays with a WIDTH more", x.count(9), 2);
    }

    private static void widthWithARecord() {
        BlockSorter x = new BlockSorter(9, 5, 2);
        feedAll(x, 1);
        unchanged(x, "2 a record on THE DESK", STATE, () -> x.width(1));
        feedAll(x, 2);
        unchanged(x, "2 records in the INPUT", STATE, () -> x.width(2));
        x.form(0);
        unchanged(x, "2 records in a RUN", STATE, () -> x.width(2));
        x.drop(0);
        x.width(2);
        Due.is("2 no record is there any more", x.count(10) + " " + x.count(6), "2 1");
    }

    private static void widthWhileDown() {
        BlockSorter x = new BlockSorter(9, 5, 2);
        x.width(4);
        x.crash(0);
        feedAll(x, 1);
        Due.is("2 DOWN, and no record is there", x.count(11) + " " + x.records(NONE), "1 0");
        unchanged(x, "2 DOWN", STATE, () -> x.width(2));
        unchanged(x, "3 DOWN", STATE, () -> x.key(0, false));
        x.up();
        x.width(2);
        Due.is("2 not DOWN any more", x.count(10), 2);
    }

    private static void ordersWithoutTheKeysBefore() {
        BlockSorter x = new BlockSorter(9, 64, 9);
        x.width(2);
        x.key(1, true);
        x.key(0, true);
        x.width(2);
        x.feed(1, 5, 0, 0);
        x.feed(2, 4, 0, 0);
        x.feed(1, 3, 0, 0);
        x.form(0);
        Due.is("2 the columns go up again", contents(x, 2), "2 0 1");
        Due.is("2 rank() goes by column 0 again", x.rank(0, 2) + " " + x.rank(0, 3), "2 3");
    }

    // ---- promise 3

    private static void keyColumn() {
        for (int width = 1; width <= 4; width++) {
            BlockSorter x = new BlockSorter(9, 20, 2);
            x.width(width);
            for (int c : new int[] {Integer.MIN_VALUE, -2, -1, width, 4, 5, Integer.MAX_VALUE}) {
                unchanged(x, "3 column " + c + " of " + width, INDEX, () -> x.key(c, false));
            }
            Due.is("3 the last column of " + width, x.key(width - 1, false), 1);
        }
    }

    private static void keyAlready() {
        BlockSorter x = new BlockSorter(9, 20, 2);
        x.width(3);
        x.key(1, false);
        unchanged(x, "3 a KEY already", ARGUMENT, () -> x.key(1, false));
        unchanged(x, "3 a KEY already, now down", ARGUMENT, () -> x.key(1, true));
        Due.is("3 another one", x.key(0, false), 2);
        unchanged(x, "3 the second one again", ARGUMENT, () -> x.key(0, false));
        Due.is("3 counted", x.count(8), 2);
    }

    private static void keyWithARun() {
        BlockSorter x = new BlockSorter(9, 7, 2);
        x.width(2);
        x.feed(1, 2, 0, 0);
        x.feed(2, 1, 0, 0);
        x.feed(3, 0, 0, 0);
        Due.is("3 with records but no RUN", x.key(1, false), 1);
        x.form(0);
        Due.is("3 which then tells", contents(x), "2 1 | 3");
        unchanged(x, "3 with RUNS", STATE, () -> x.key(0, false));
        x.drop(0);
        unchanged(x, "3 with one RUN", STATE, () -> x.key(0, false));
        x.drop(0);
        Due.is("3 without a RUN", x.key(0, false), 2);
    }

    // ---- promise 4

    private static void modes() {
        BlockSorter x = new BlockSorter(9, 5, 2);
        Due.is("4 first 0", x.mode(0), 0);
        Due.is("4 to 1", x.mode(1), 0);
        Due.is("4 to 2", x.mode(2), 1);
        Due.is("4 to 2 again", x.mode(2), 2);
        for (int m : new int[] {Integer.MIN_VALUE, -2, -1, 3, 4, Integer.MAX_VALUE}) {
            unchanged(x, "4 MODE " + m, ARGUMENT, () -> x.mode(m));
        }
        feedAll(x, 2, 2);
        x.form(0);
        Due.is("4 with a RUN", x.mode(0), 2);
    }

    // ---- promise 5

    private static void feedTheFirstNumbers() {
        String[] want = {"11", "11 12", "11 12 13", "11 12 13 14"};
        for (int width = 1; width <= 4; width++) {
            BlockSorter x = new BlockSorter(9, 20, 2);
            x.width(width);
            x.feed(11, 12, 13, 14);
            x.form(0);
            StringBuilder text = new StringBuilder();
            for (int c = 0; c < width; c++) {
                text.append(c == 0 ? "" : " ").append(x.told(0, 0, c));
            }
            Due.is("5 the first ones, WIDTH " + width, text.toString(), want[width - 1]);
            Due.is("5 and the NUMBER, WIDTH " + width, x.told(0, 0, width), 0);
        }
    }

    private static void feedThatDoesNotCome() {
        BlockSorter x = new BlockSorter(2, 5, 2);
        feedAll(x, 1, 2, 3, 4);
        Due.is("5 no block is free, and none is wanted", x.feed(5, 0, 0, 0), 4);
        String before = state(x);
        Due.full("5 FULL", () -> x.feed(6, 0, 0, 0));
        Due.is("5 FULL: it did not come", state(x), before);
        Due.full("5 FULL again", () -> x.feed(6, 0, 0, 0));
        BlockSorter y = new BlockSorter(2, 5, 2);
        y.crash(0);
        Due.is("5 the desk needs no power", y.feed(1, 0, 0, 0), 0);
        Due.is("5 power fails", y.feed(2, 0, 0, 0), DOWN);
        Due.is("5 power fails: it did not come", y.count(5) + " " + y.count(7) + " " + y.count(4),
                "1 1 2");
        unchanged(y, "5 DOWN", STATE, () -> y.feed(2, 0, 0, 0));
    }

    // ---- promise 6

    private static void runLimits() {
        BlockSorter x = new BlockSorter(200, 64, 2);
        for (int span : new int[] {Integer.MIN_VALUE, -1, 0, 1000000001, Integer.MAX_VALUE}) {
            unchanged(x, "6 span " + span, ARGUMENT, () -> x.run(1, span, 1));
            unchanged(x, "6 span " + span + " of none", ARGUMENT, () -> x.run(1, span, 0));
        }
        for (int n : new int[] {Integer.MIN_VALUE, -2, -1, 301, Integer.MAX_VALUE}) {
            unchanged(x, "6 n " + n, ARGUMENT, () -> x.run(1, 1, n));
        }
        String before = state(x);
        Due.is("6 none", x.run(1, 1, 0), 0);
        Due.is("6 none: nothing comes", state(x), before);
        Due.is("6 one of span 1", x.run(1, 1, 1), 1);
        Due.is("6 one of the most span", x.run(1, 1000000000, 1), 1);
        Due.is("6 the most", x.run(1, 1000000000, 300), 300);
        Due.is("6 all came", x.count(5), 302);
    }

    /** The number that a column becomes from a seed, in numbers of any length. */
    private static long columnOf(long seed, int span) {
        return new BigInteger("6364136223846793005").multiply(BigInteger.valueOf(seed))
                .add(new BigInteger("1442695040888963407"))
                .mod(BigInteger.ONE.shiftLeft(64))
                .shiftRight(33).mod(BigInteger.valueOf(span)).longValueExact();
    }

    private static void runNumbers() {
        long[] seeds = {0, 1, -1, 2, 1L << 33, Long.MIN_VALUE, Long.MAX_VALUE};
        for (int span : new int[] {1, 2, 10, 999999999, 1000000000}) {
            for (long seed : seeds) {
                BlockSorter x = new BlockSorter(9, 12, 9);
                x.run(seed, span, 1);
                x.form(2);
                Due.is("6 64 bits, 0 coming in, seed " + seed + " span " + span,
                        x.told(0, 0, 0), columnOf(seed, span));
            }
        }
        // the same seed gives the same numbers, two to a record or one
        BlockSorter one = new BlockSorter(9, 20, 2);
        one.run(5, 1000, 4);
        one.form(2);
        BlockSorter two = new BlockSorter(9, 20, 2);
        two.width(2);
        two.run(5, 1000, 2);
        two.form(2);
        String apart = contents(one).replace(" |", "");
        String[] first = contents(two).replace(" |", "").split(" ");
        String[] second = contents(two, 1).replace(" |", "").split(" ");
        Due.is("6 x goes on for each column",
                first[0] + " " + second[0] + " " + first[1] + " " + second[1], apart);
    }

    private static void runEndsEarly() {
        BlockSorter full = new BlockSorter(2, 5, 2);
        Due.is("6 just so many as there is room for", full.run(1, 9, 5), 5);
        Due.is("6 none at all, and it does not throw", full.run(1, 9, 1), 0);
        Due.is("6 FULL is not DOWN", full.count(11) + " " + full.count(5), "0 5");
        BlockSorter early = new BlockSorter(2, 5, 2);
        Due.is("6 it ends early when FULL", early.run(1, 9, 6), 5);
        BlockSorter dark = new BlockSorter(9, 5, 2);
        dark.crash(2);
        Due.is("6 just so many as there is power for",
                dark.run(1, 9, 5) + " " + dark.count(11), "5 0");
        Due.is("6 it ends when power fails", dark.run(1, 9, 5) + " " + dark.count(11), "0 1");
        unchanged(dark, "6 DOWN, also of none", STATE, () -> dark.run(1, 9, 0));
    }

    // ---- promises 7 to 10

    private static void formWays() {
        BlockSorter x = five();
        for (int way : new int[] {Integer.MIN_VALUE, -2, -1, 3, 4, Integer.MAX_VALUE}) {
            unchanged(x, "7 way " + way, ARGUMENT, () -> x.form(way));
        }
        x.form(0);
        feedAll(x, 1);
        Due.is("7 how many RUNS there are, not how many are new", x.form(0), 4);
        Due.is("7 nothing to form", x.form(1), 4);
        feedAll(x, 1);
        x.crash(0);
        Due.is("7 DOWN", x.form(0), DOWN);
        unchanged(x, "7 while DOWN", STATE, () -> x.form(0));
    }

    private static void mergingAnswers() {
        BlockSorter none = new BlockSorter(9, 5, 2);
        feedAll(none, 1, 2, 3);
        String before = state(none);
        Due.is("8 to 10 no RUN", none.pass(2) + " " + none.best(2) + " " + none.poly(3), "0 0 0");
        Due.is("8 to 10 no RUN: the INPUT stays", state(none), before);
        BlockSorter one = fallingRuns(9, 1);
        feedAll(one, 7);
        before = state(one);
        one.crash(0);
        Due.is("8 to 10 one RUN", one.pass(2) + " " + one.best(2) + " " + one.poly(3), "1 1 1");
        Due.is("8 to 10 one RUN: all stays", state(one), before);
        BlockSorter x = fallingRuns(20, 2);
        x.crash(0);
        Due.is("8 DOWN", x.pass(2), DOWN);
        x.up();
        x.crash(0);
        Due.is("9 DOWN", x.best(2), DOWN);
        x.up();
        x.crash(0);
        Due.is("10 DOWN", x.poly(3), DOWN);
        unchanged(x, "8 while DOWN", STATE, () -> x.pass(2));
        unchanged(x, "9 while DOWN", STATE, () -> x.best(2));
        unchanged(x, "10 while DOWN", STATE, () -> x.poly(3));
        // 6 5 is merged on the blocks that are free; 4 3 2 and 1 want more than there are
        BlockSorter groups = new BlockSorter(9, 5, 2);
        groups.width(4);
        feedAll(groups, 6);
        groups.form(0);
        feedAll(groups, 5);
        groups.form(0);
        feedAll(groups, 2, 3, 4);
        groups.form(2);
        feedAll(groups, 1);
        groups.form(0);
        Due.is("8 three are free", groups.count(4), 3);
        Due.full("8 FULL in the second group", () -> groups.pass(2));
        Due.is("8 groups before are merged then", contents(groups), "5 6 | 2 3 4 | 1");
        Due.is("8 and no block is lost", groups.count(4), 3);
    }

    // ---- promise 11

    private static void planOfFewRuns() {
        BlockSorter x = new BlockSorter(20, 5, 2);
        feedAll(x, 1, 2, 3);
        Due.is("11 no RUN", x.plan(2), 0);
        x.form(2);
        Due.is("11 one RUN", x.runs() + " " + x.plan(2) + " " + x.plan(8), "1 0 0");
        feedAll(x, 1);
        x.form(2);
        Due.is("11 two RUNS, of 2 blocks and of 1", x.plan(2) + " " + x.plan(8), "3 3");
    }

    private static void planOfGroups() {
        // RUNS of one block each; PASSES of these, those alone not READ
        int[][] runsFanReads = {
            {2, 2, 2}, {3, 2, 2 + 3}, {4, 2, 4 + 4}, {5, 2, 4 + 4 + 5}, {3, 3, 3}, {4, 3, 3 + 4},
            {8, 8, 8}, {9, 8, 8 + 9}, {10, 8, 10 + 10}, {10, 3, 9 + 9 + 10}, {17, 8, 16 + 17},
        };
        for (int[] row : runsFanReads) {
            BlockSorter x = fallingRuns(60, row[0]);
            x.mode(2);
            String what = "11 RUNS " + row[0] + ", FAN " + row[1];
            String before = state(x);
            Due.is(what, x.plan(row[1]), row[2]);
            Due.is(what + ": nothing moves", state(x), before);
            x.mode(0);
            int reads = x.count(0);
            for (int i = 0; i < 10 && x.runs() > 1; i++) {
                x.pass(row[1]);
            }
            Due.is(what + ": as it is done", x.count(0) - reads, row[2]);
        }
        BlockSorter same = new BlockSorter(20, 5, 2);
        feedAll(same, 3, 3, 3, 3, 3, 3);
        same.form(0);
        same.mode(1);
        // 2 + 2 records, then 4 + 2: 2 blocks, then 2 + 1
        Due.is("11 as if all records stayed", same.plan(2), 2 + 3);
        BlockSorter halves = new BlockSorter(20, 5, 2);
        for (int i = 0; i < 4; i++) {
            feedAll(halves, i);
            halves.form(0);
        }
        // blocks that are half full become full ones: 4, then 1 + 1
        Due.is("11 by records, not by blocks", halves.plan(2), 4 + 2);
        halves.crash(0);
        halves.pass(2);
        Due.is("11 while DOWN", halves.plan(2), 6);
    }

    // ---- promises 12 to 14

    private static void runsCounted() {
        BlockSorter x = new BlockSorter(20, 5, 2);
        Due.is("12 none", x.runs(), 0);
        feedAll(x, 3, 2, 1);
        Due.is("12 the INPUT is none", x.runs(), 0);
        x.form(2);
        Due.is("12 RUNS", x.runs(), 3);
        x.crash(0);
        x.pass(2);
        Due.is("12 while DOWN", x.runs(), 3);
    }

    private static void recordsOfARun() {
        BlockSorter x = fourRuns(20);
        for (int run : new int[] {Integer.MIN_VALUE, -2, 4, 5, Integer.MAX_VALUE}) {
            unchanged(x, "13 RUN " + run, INDEX, () -> x.records(run));
        }
        Due.is("13 the first and the last", x.records(0) + " " + x.records(3), "3 1");
        Due.is("13 NONE: nothing", x.records(NONE), 0);
        feedAll(x, 1);
        Due.is("13 NONE: THE DESK alone", x.records(NONE), 1);
        feedAll(x, 1);
        Due.is("13 NONE: the INPUT alone", x.records(NONE), 2);
        feedAll(x, 1);
        Due.is("13 NONE: the INPUT with THE DESK", x.records(NONE), 3);
        x.crash(0);
        x.form(0);
        Due.is("13 while DOWN", x.records(NONE) + " " + x.records(0), "3 3");
        BlockSorter none = new BlockSorter(20, 5, 2);
        Due.index("13 no RUN at all", () -> none.records(0));
    }

    private static void blockOfARun() {
        BlockSorter x = fourRuns(20);
        for (int run : new int[] {Integer.MIN_VALUE, -2, 4, Integer.MAX_VALUE}) {
            unchanged(x, "14 RUN " + run, INDEX, () -> x.block(run, 0));
        }
        for (int k : new int[] {Integer.MIN_VALUE, -1, 2, 3, 19, 20, 200, Integer.MAX_VALUE}) {
            unchanged(x, "14 block " + k, INDEX, () -> x.block(0, k));
        }
        Due.is("14 the first and the last", x.block(0, 0) + " " + x.block(0, 1), "4 5");
        Due.index("14 the INPUT has none", () -> x.block(NONE, 0));
        feedAll(x, 1);
        Due.index("14 THE DESK is none", () -> x.block(NONE, 0));
        feedAll(x, 1, 1);
        Due.is("14 of the INPUT", x.block(NONE, 0), 0);
        for (int k : new int[] {Integer.MIN_VALUE, -1, 1, 2, 20, Integer.MAX_VALUE}) {
            unchanged(x, "14 INPUT's block " + k, INDEX, () -> x.block(NONE, k));
        }
        x.crash(0);
        x.form(0);
        Due.is("14 while DOWN", x.block(NONE, 0) + " " + x.block(0, 1), "0 5");
        BlockSorter zero = new BlockSorter(20, 5, 2);
        feedAll(zero, 2);
        zero.form(0);
        feedAll(zero, 1);
        zero.form(0);
        zero.pass(2);
        Due.is("14 block 0 alone", zero.records(0) + ", " + allBlocks(zero), "2, 0");
        Due.index("14 none behind block 0", () -> zero.block(0, 1));
    }

    // ---- promise 15

    private static void toldLimits() {
        BlockSorter x = fourRuns(20);
        for (int run : new int[] {Integer.MIN_VALUE, -2, -1, 4, Integer.MAX_VALUE}) {
            unchanged(x, "15 RUN " + run, INDEX, () -> x.told(run, 0, 0));
        }
        for (int i : new int[] {Integer.MIN_VALUE, -1, 3, 4, Integer.MAX_VALUE}) {
            unchanged(x, "15 record " + i, INDEX, () -> x.told(0, i, 0));
        }
        for (int c : new int[] {Integer.MIN_VALUE, -1, 2, 3, Integer.MAX_VALUE}) {
            unchanged(x, "15 column " + c, INDEX, () -> x.told(0, 0, c));
        }
        Due.is("15 the first record", x.told(0, 0, 0) + " " + x.told(0, 0, 1), "7 0");
        Due.is("15 the last record", x.told(0, 2, 0) + " " + x.told(0, 2, 1), "9 2");
        Due.is("15 the last RUN", x.told(3, 0, 0) + " " + x.told(3, 0, 1), "3 6");
        BlockSorter wide = new BlockSorter(9, 20, 2);
        wide.width(4);
        wide.feed(1, 2, 3, Long.MIN_VALUE);
        wide.form(0);
        Due.is("15 the last column, and the NUMBER", wide.told(0, 0, 3) + " " + wide.told(0, 0, 4),
                Long.MIN_VALUE + " 0");
        Due.index("15 none behind the NUMBER", () -> wide.told(0, 0, 5));
        x.crash(0);
        x.pass(2);
        unchanged(x, "15 DOWN", STATE, () -> x.told(0, 0, 0));
    }

    private static void toldReads() {
        BlockSorter x = fourRuns(20);
        Due.is("15 RUNS", allBlocks(x) + ", arm " + x.count(3), "4 5 | 6 | 7 | 8, arm 8");
        int reads = x.count(0);
        int way = x.count(2);
        x.told(3, 0, 0);
        Due.is("15 WRITTEN last", (x.count(0) - reads) + " " + (x.count(2) - way), "0 0");
        x.told(0, 1, 0);
        Due.is("15 READ", (x.count(0) - reads) + " " + (x.count(2) - way), "1 4");
        x.told(0, 0, 1);
        Due.is("15 READ last", (x.count(0) - reads) + " " + (x.count(2) - way), "1 4");
        x.told(0, 2, 0);
        Due.is("15 another block of it", (x.count(0) - reads) + " " + (x.count(2) - way), "2 5");
        feedAll(x, 1, 1);
        x.told(0, 2, 0);
        Due.is("15 WRITTEN since", (x.count(0) - reads) + " " + (x.count(2) - way), "3 15");
    }

    // ---- promise 16

    private static void rankOfEdges() {
        BlockSorter x = new BlockSorter(20, 5, 9);
        feedAll(x, 4);
        x.form(0);
        Due.is("16 of one: less, the same, more", x.rank(0, 3) + " " + x.rank(0, 4) + " "
                + x.rank(0, 5), "0 0 1");
        feedAll(x, Long.MIN_VALUE, 2, 2, 2, Long.MAX_VALUE);
        x.form(0);
        Due.is("16 the least", x.rank(1, Long.MIN_VALUE), 0);
        Due.is("16 one more than the least", x.rank(1, Long.MIN_VALUE + 1), 1);
        Due.is("16 the same ones are not before", x.rank(1, 2) + " " + x.rank(1, 3), "1 4");
        Due.is("16 the greatest", x.rank(1, Long.MAX_VALUE), 4);
        for (int run : new int[] {Integer.MIN_VALUE, -2, -1, 2, Integer.MAX_VALUE}) {
            unchanged(x, "16 RUN " + run, INDEX, () -> x.rank(run, 0));
        }
        x.crash(0);
        x.pass(2);
        unchanged(x, "16 DOWN", STATE, () -> x.rank(0, 0));
    }

    private static void rankByHalves() {
        // PER is 1: records 1 2 .. 6 on blocks 6 .. 11
        BlockSorter x = new BlockSorter(20, 5, 64);
        x.width(4);
        feedAll(x, 1, 2, 3, 4, 5, 6);
        x.form(0);
        Due.is("16 blocks", allBlocks(x) + ", arm " + x.count(3), "6 7 8 9 10 11, arm 11");
        // the value, how many, READS, WAY: by the blocks of the records that are looked at
        int[][] looks = {
            {0, 0, 3, (11 - 9) + (9 - 7) + (7 - 6)},
            {7, 6, 2, (9 - 6) + (11 - 9)},
            {3, 2, 3, (11 - 9) + (9 - 7) + (8 - 7)},
            {4, 3, 3, (9 - 8) + (9 - 7) + (8 - 7)},
            {5, 4, 3, (9 - 8) + (11 - 9) + (11 - 10)},
        };
        for (int[] look : looks) {
            int reads = x.count(0);
            int way = x.count(2);
            String what = "16 by halves, value " + look[0];
            Due.is(what, x.rank(0, look[0]), look[1]);
            Due.is(what + ": READS", x.count(0) - reads, look[2]);
            Due.is(what + ": WAY", x.count(2) - way, look[3]);
        }
    }

    private static void rankDown() {
        BlockSorter x = new BlockSorter(20, 64, 9);
        x.width(2);
        x.key(1, true);
        x.feed(1, Long.MAX_VALUE, 0, 0);
        x.feed(2, 5, 0, 0);
        x.feed(3, 5, 0, 0);
        x.feed(4, Long.MIN_VALUE, 0, 0);
        x.form(0);
        Due.is("16 down: the greatest", x.rank(0, Long.MAX_VALUE), 0);
        Due.is("16 down: one less", x.rank(0, Long.MAX_VALUE - 1), 1);
        Due.is("16 down: the same", x.rank(0, 5), 1);
        Due.is("16 down: one less than the same", x.rank(0, 4), 3);
        Due.is("16 down: the least", x.rank(0, Long.MIN_VALUE), 3);
        BlockSorter bare = new BlockSorter(20, 64, 9);
        bare.width(2);
        bare.feed(1, 9, 0, 0);
        bare.feed(2, 0, 0, 0);
        bare.form(0);
        Due.is("16 column 0 without KEYS", bare.rank(0, 2), 1);
        BlockSorter up = new BlockSorter(20, 64, 9);
        up.width(2);
        up.key(1, false);
        up.key(0, true);
        up.feed(9, 1, 0, 0);
        up.feed(8, 2, 0, 0);
        up.feed(7, 2, 0, 0);
        up.form(0);
        Due.is("16 up, by the first KEY alone", up.rank(0, 1) + " " + up.rank(0, 2) + " "
                + up.rank(0, 3), "0 1 3");
    }

    // ---- promise 17

    private static void dropLimits() {
        BlockSorter x = fourRuns(20);
        for (int run : new int[] {Integer.MIN_VALUE, -2, -1, 4, Integer.MAX_VALUE}) {
            unchanged(x, "17 RUN " + run, INDEX, () -> x.drop(run));
        }
        String before = moves(x);
        Due.is("17 one in the middle", x.drop(1), 3);
        Due.is("17 nothing moves", moves(x), before);
        Due.is("17 the others", contents(x), "7 8 9 | 4 5 | 3");
        Due.index("17 there is one less", () -> x.drop(3));
        Due.is("17 the last", x.drop(2) + ", " + contents(x), "2, 7 8 9 | 4 5");
        Due.is("17 the first", x.drop(0) + ", " + contents(x), "1, 4 5");
        x.crash(0);
        feedAll(x, 1, 2);
        unchanged(x, "17 DOWN", STATE, () -> x.drop(0));
        x.up();
        Due.is("17 the only one", x.drop(0) + " " + x.count(4), "0 20");
        Due.index("17 none", () -> x.drop(0));
    }

    // ---- promise 18

    private static void counts() {
        BlockSorter x = new BlockSorter(10, 7, 2);
        int[] first = {0, 0, 0, 0, 10, 0, 3, 0, 0, 0, 1, 0};
        for (int what = 0; what < first.length; what++) {
            Due.is("18 count(" + what + ") first", x.count(what), first[what]);
        }
        for (int what : new int[] {Integer.MIN_VALUE, -2, -1, 12, 13, Integer.MAX_VALUE}) {
            unchanged(x, "18 count(" + what + ")", ARGUMENT, () -> x.count(what));
        }
        x.width(2);
        x.key(1, true);
        x.key(0, true);
        x.mode(2);
        x.feed(1, 1, 0, 0);
        x.feed(2, 2, 0, 0);
        x.feed(3, 3, 0, 0);
        x.form(0);
        x.feed(4, 4, 0, 0);
        x.crash(0);
        x.feed(5, 5, 0, 0);
        // written 0, 1 (1); read 0 (1), written 2 (2); read 1 (1), written 3 (2)
        int[] last = {2, 4, 7, 3, 8, 4, 2, 1, 2, 2, 2, 1};
        for (int what = 0; what < last.length; what++) {
            Due.is("18 count(" + what + ") then", x.count(what), last[what]);
        }
    }

    // ---- promises 19 and 20

    private static void crashLimits() {
        BlockSorter x = new BlockSorter(20, 5, 2);
        x.width(4);
        for (int n : new int[] {Integer.MIN_VALUE, -3, -2, 100001, Integer.MAX_VALUE}) {
            unchanged(x, "19 crash(" + n + ")", ARGUMENT, () -> x.crash(n));
        }
        Due.is("19 a wrong one tells nothing", x.feed(1, 0, 0, 0), 0);
        x.crash(100000);
        Due.is("19 the most", x.feed(1, 0, 0, 0), 1);
        x.crash(1);
        Due.argument("19 a wrong one takes nothing back", () -> x.crash(-2));
        Due.is("19 behind one more", x.feed(1, 0, 0, 0), 2);
        Due.is("19 behind one more it fails", x.feed(1, 0, 0, 0), DOWN);
        unchanged(x, "19 while DOWN", STATE, () -> x.crash(5));
        unchanged(x, "19 while DOWN: NONE", STATE, () -> x.crash(NONE));
        x.up();
        x.crash(0);
        Due.is("19 behind none", x.feed(1, 0, 0, 0), DOWN);
    }

    private static void crashAnew() {
        BlockSorter x = new BlockSorter(20, 5, 2);
        x.width(4);
        x.crash(0);
        x.crash(NONE);
        Due.is("19 NONE: not", x.run(1, 9, 5), 5);
        x.crash(0);
        x.crash(2);
        Due.is("19 what was told last", x.run(1, 9, 5), 2);
        x.up();
        x.crash(5);
        x.crash(0);
        Due.is("19 also if it is sooner", x.run(1, 9, 5), 0);
        x.up();
        x.crash(3);
        x.run(1, 9, 2);
        x.form(0);
        Due.is("19 over several calls", x.count(11) + " " + x.count(1), "1 10");
    }

    private static void upLimits() {
        BlockSorter x = fallingRuns(20, 2);
        unchanged(x, "20 it is not DOWN", STATE, x::up);
        x.crash(0);
        unchanged(x, "20 it is to fail, but is not DOWN", STATE, x::up);
        x.pass(2);
        Due.is("20 power is back", x.up() + " " + x.count(11), "2 0");
        unchanged(x, "20 twice", STATE, x::up);
        Due.is("20 and is not to fail", x.pass(2), 1);
        BlockSorter none = new BlockSorter(20, 5, 2);
        none.crash(0);
        feedAll(none, 1, 2);
        Due.is("20 no RUN", none.up(), 0);
    }
}
