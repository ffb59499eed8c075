/**
 * The boundaries that the document names under 'Terms' for records, THE ORDER, THE DISK, FILES
 * and THE DESK (part 1): one test for each sentence, in its order, with answers counted by hand.
 */
public final class RecordsTest extends Bench {
    private RecordsTest() {
    }

    public static void main(String[] args) {
        widthOneToFour();
        numbersOf64Bits();
        numberIsHowManyCameBefore();
        atMostFourKeys();
        columnsWithoutKeys();
        firstKeyThatDiffers();
        elseTheLesserNumber();
        alike();
        wholeRecordsInABlock();
        armAndWay();
        lastBlockOfAFile();
        leastBlockThatIsFree();
        blocksAreFreeWhenGone();
        desk();
        Due.end();
    }

    private static void widthOneToFour() {
        BlockSorter x = new BlockSorter(9, 20, 2);
        Due.is("WIDTH at first 1", x.count(10), 1);
        Due.is("WIDTH at first 1: PER", x.count(6), 10);
        int[] per = {10, 6, 5, 4};
        for (int n = 1; n <= 4; n++) {
            x.width(n);
            Due.is("WIDTH " + n, x.count(10), n);
            Due.is("WIDTH " + n + ": PER", x.count(6), per[n - 1]);
        }
        unchanged(x, "WIDTH 0", "IllegalArgumentException", () -> x.width(0));
        unchanged(x, "WIDTH 5", "IllegalArgumentException", () -> x.width(5));
    }

    private static void numbersOf64Bits() {
        long[] falling = {Long.MAX_VALUE, 1L << 40, (1L << 32) + 1, 1L << 32, 1, 0, -1,
            -(1L << 32), Long.MIN_VALUE};
        StringBuilder up = new StringBuilder();
        StringBuilder down = new StringBuilder();
        for (int i = 0; i < falling.length; i++) {
            down.append(i == 0 ? "" : " ").append(falling[i]);
            up.insert(0, i == 0 ? "" : " ").insert(0, falling[i]);
        }
        BlockSorter x = new BlockSorter(9, 64, 64);
        feedAll(x, falling);
        x.form(0);
        Due.is("numbers of 64 bits, up", contents(x), up.toString());
        BlockSorter y = new BlockSorter(9, 64, 64);
        y.key(0, true);
        feedAll(y, falling);
        Due.is("numbers of 64 bits, down, as they are", y.form(2), 1);
        Due.is("numbers of 64 bits, down", contents(y), down.toString());
    }

    private static void numberIsHowManyCameBefore() {
        BlockSorter x = new BlockSorter(2, 5, 2);
        Due.is("NUMBER of the first", x.feed(9, 0, 0, 0), 0);
        Due.is("NUMBER of the second", x.feed(8, 0, 0, 0), 1);
        x.form(0);
        Due.is("NUMBER in a RUN", contents(x, 1), "1 0");
        Due.is("NUMBER behind FORMING", x.feed(7, 0, 0, 0), 2);
        x.crash(0);
        Due.is("NUMBER: one does not come", x.feed(7, 0, 0, 0), DOWN);
        x.up();
        Due.is("NUMBER behind one that did not come", x.feed(6, 0, 0, 0), 3);
        Due.is("NUMBER with the last place of the desk", x.feed(5, 0, 0, 0), 4);
        Due.full("NUMBER: the DISK is FULL", () -> x.feed(4, 0, 0, 0));
        x.drop(0);
        Due.is("NUMBER behind one for which there was no block", x.feed(4, 0, 0, 0), 5);
        BlockSorter y = new BlockSorter(5, 10, 2);
        feedAll(y, 1);
        y.form(0);
        y.drop(0);
        y.width(3);
        Due.is("NUMBER behind a WIDTH more", y.feed(4, 5, 6, 7), 1);
        y.form(0);
        Due.is("NUMBER behind a WIDTH more: told", contents(y, 3), "1");
    }

    private static void atMostFourKeys() {
        BlockSorter x = new BlockSorter(9, 64, 9);
        x.width(4);
        Due.is("KEYS: 1", x.key(3, false), 1);
        Due.is("KEYS: 2", x.key(2, true), 2);
        Due.is("KEYS: 3", x.key(1, false), 3);
        Due.is("KEYS: 4", x.key(0, true), 4);
        for (int column = 0; column < 4; column++) {
            int again = column;
            unchanged(x, "KEYS: a fifth", "IllegalArgumentException", () -> x.key(again, false));
        }
        x.feed(1, 1, 1, 1);
        x.feed(2, 1, 1, 1);
        x.feed(9, 0, 1, 1);
        x.feed(0, 9, 2, 1);
        x.feed(0, 9, 0, 0);
        x.form(0);
        Due.is("KEYS: the fourth one tells, too", contents(x, 4), "4 3 2 1 0");
    }

    private static void columnsWithoutKeys() {
        BlockSorter x = new BlockSorter(9, 64, 9);
        x.width(4);
        x.feed(1, 1, 1, 2);
        x.feed(1, 1, 1, 1);
        x.feed(1, 1, 0, 9);
        x.feed(1, 0, 9, 9);
        x.feed(0, 9, 9, 9);
        x.form(0);
        Due.is("without KEYS the columns go up", contents(x, 4), "4 3 2 1 0");
    }

    private static void firstKeyThatDiffers() {
        BlockSorter x = new BlockSorter(9, 64, 9);
        x.width(3);
        x.key(1, false);
        x.key(2, true);
        x.feed(0, 5, 1, 0);
        x.feed(9, 5, 2, 0);
        x.feed(5, 4, 0, 0);
        x.feed(4, 6, 9, 0);
        x.form(0);
        Due.is("BEFORE by the first KEY in which they differ", contents(x, 3), "2 1 0 3");
    }

    private static void elseTheLesserNumber() {
        BlockSorter x = new BlockSorter(9, 64, 9);
        x.width(2);
        x.key(0, true);
        x.feed(5, 3, 0, 0);
        x.feed(6, 2, 0, 0);
        x.feed(5, 1, 0, 0);
        x.feed(6, 0, 0, 0);
        x.form(0);
        Due.is("else by the lesser NUMBER, also down", contents(x, 2), "1 3 0 2");
        BlockSorter y = fallingRuns(30, 3);
        y.feed(3, 0, 0, 0);
        y.form(0);
        y.pass(8);
        Due.is("else by the lesser NUMBER, of two RUNS", contents(y, 4), "2 1 0 3");
    }

    private static void alike() {
        BlockSorter keyed = new BlockSorter(9, 64, 9);
        keyed.width(3);
        keyed.key(0, false);
        keyed.key(2, false);
        keyed.mode(1);
        keyed.feed(1, 7, 1, 0);
        keyed.feed(1, 8, 1, 0);
        keyed.feed(1, 7, 2, 0);
        keyed.form(0);
        Due.is("ALIKE: they differ in no KEY", contents(keyed, 3), "0 2");
        BlockSorter bare = new BlockSorter(9, 64, 9);
        bare.width(3);
        bare.mode(1);
        bare.feed(1, 7, 1, 0);
        bare.feed(1, 7, 2, 0);
        bare.feed(1, 7, 1, 0);
        bare.feed(1, 7, 2, 0);
        bare.form(0);
        Due.is("ALIKE without KEYS: in no column", contents(bare, 3), "0 1");
    }

    private static void wholeRecordsInABlock() {
        int[][] sizeWidthPer = {
            {5, 1, 2}, {5, 2, 1}, {5, 3, 1}, {5, 4, 1}, {6, 1, 3}, {6, 2, 2}, {7, 3, 1}, {8, 3, 2},
            {9, 4, 1}, {10, 4, 2}, {63, 1, 31}, {64, 1, 32}, {64, 2, 21}, {64, 3, 16}, {64, 4, 12},
        };
        for (int[] row : sizeWidthPer) {
            BlockSorter x = new BlockSorter(3, row[0], 2);
            x.width(row[1]);
            String what = "as many whole ones as there is room for, SIZE " + row[0]
                    + " WIDTH " + row[1];
            Due.is(what, x.count(6), row[2]);
            Due.is(what + ": so many come", x.run(1, 9, row[2]), row[2]);
            Due.is(what + ": and are written", x.count(1) + " " + x.count(7), "1 0");
        }
    }

    private static void armAndWay() {
        BlockSorter x = new BlockSorter(10, 5, 2);
        x.width(4);
        Due.is("THE ARM stands at block 0 first", moves(x), "0 0 0 0");
        feedAll(x, 3);
        Due.is("WAY of none", moves(x), "0 1 0 0");
        feedAll(x, 2);
        Due.is("WAY upwards", moves(x), "0 2 1 1");
        feedAll(x, 1);
        // read 0 (2), 1 (1), written 3 (2), 4 (1); read 2 (2), written 5 (3)
        x.form(0);
        Due.is("WAY both ways", moves(x), "3 6 13 5");
    }

    private static void lastBlockOfAFile() {
        String[] want = {"", "1", "1", "2 3", "2 3", "3 4 5"};
        for (int n = 1; n <= 5; n++) {
            BlockSorter x = new BlockSorter(20, 5, 64);
            x.run(n, 9, n);
            x.form(0);
            String what = "the last block has 1 .. PER, of " + n;
            Due.is(what, blocks(x, 0), want[n]);
            int count = (n + 1) / 2;
            Due.index(what + ": no more", () -> x.block(0, count));
            Due.is(what + ": free", x.count(4), 20 - count);
            Due.is(what + ": records", x.records(0), n);
        }
    }

    private static void leastBlockThatIsFree() {
        BlockSorter x = fallingRuns(9, 4);
        Due.is("least free: RUNS", allBlocks(x), "4 | 5 | 6 | 7");
        x.drop(1);
        feedAll(x, 1, 1, 1, 1, 1, 1);
        Due.is("least free: the INPUT", blocks(x, NONE), "0 1 2 3 5 8");
        Due.is("least free: none", x.count(4), 0);
        Due.full("least free: FULL", () -> x.feed(1, 0, 0, 0));
        x.drop(2);
        feedAll(x, 1);
        Due.is("least free: the one that is", blocks(x, NONE), "0 1 2 3 5 8 7");
    }

    private static void blocksAreFreeWhenGone() {
        BlockSorter x = new BlockSorter(9, 5, 2);
        feedAll(x, 4, 3, 2);
        Due.is("free: but for the INPUT's", x.count(4), 8);
        x.form(0);
        Due.is("free: the INPUT is gone", x.count(4), 7);
        x.drop(0);
        Due.is("free: a RUN is gone", x.count(4), 8);
        x.drop(0);
        Due.is("free: all are gone", x.count(4), 9);
    }

    private static void desk() {
        BlockSorter x = new BlockSorter(9, 7, 2);
        feedAll(x, 3, 2);
        Due.is("fewer than PER on THE DESK", x.count(7) + " " + x.records(NONE), "2 2");
        Due.is("THE DESK is not written", moves(x) + " " + x.count(4), "0 0 0 0 9");
        Due.index("THE DESK is no block", () -> x.block(NONE, 0));
        feedAll(x, 1);
        Due.is("with the PER-th they are written", x.count(7) + " " + x.count(1) + " "
                + blocks(x, NONE), "0 1 0");
        feedAll(x, 5, 6, 7, 8);
        Due.is("the INPUT's next block", blocks(x, NONE) + ", " + x.count(7), "0 1, 1");
    }
}
