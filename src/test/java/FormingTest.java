/**
 * The boundaries that the document names under 'Terms' for FORMING and the MODE (part 2): one
 * test for each sentence, in its order, with answers counted by hand.
 */
public final class FormingTest extends Bench {
    private FormingTest() {
    }

    public static void main(String[] args) {
        deskIsWrittenFirst();
        blockIsReadWhenWanted();
        runsComeBehind();
        pageAtARunsEnd();
        loading();
        choosing();
        choosingByWhatWentOut();
        asTheyAre();
        allGoOut();
        oneGoesOut();
        sumGoesOut();
        sumThatIsOne();
        whenARecordIsOnThePage();
        toldByWhatWasChosen();
        memoryIsEmptyFirst();
        inputIsGone();
        Due.end();
    }

    private static void deskIsWrittenFirst() {
        BlockSorter empty = new BlockSorter(9, 5, 2);
        feedAll(empty, 4, 3, 2, 1);
        empty.form(0);
        Due.is("nothing on THE DESK", empty.count(1), 4);
        BlockSorter alone = new BlockSorter(9, 5, 2);
        feedAll(alone, 4);
        alone.form(0);
        Due.is("THE DESK alone", moves(alone) + ", " + allBlocks(alone), "1 2 1 1, 1");
        BlockSorter last = new BlockSorter(9, 5, 2);
        feedAll(last, 4, 3, 2);
        last.crash(1);
        last.form(0);
        // 1 written, 0 read, and 2 is not written
        Due.is("THE DESK before all", moves(last), "1 2 2 0");
        BlockSorter none = new BlockSorter(9, 5, 2);
        Due.is("nothing at all", none.form(0) + " " + none.form(1) + " " + none.form(2), "0 0 0");
        Due.is("nothing at all: moves", moves(none), "0 0 0 0");
    }

    /** How many blocks are read before the first page would be written; PER is 2. */
    private static int readsBeforeAPage(int memory, int way) {
        BlockSorter x = new BlockSorter(20, 5, memory);
        feedAll(x, 1, 2, 3, 4, 5, 6);
        x.crash(0);
        x.form(way);
        return x.count(0);
    }

    private static void blockIsReadWhenWanted() {
        Due.is("read when wanted: loading 2", readsBeforeAPage(2, 0), 1);
        Due.is("read when wanted: loading 3", readsBeforeAPage(3, 0), 2);
        Due.is("read when wanted: loading 4", readsBeforeAPage(4, 0), 2);
        Due.is("read when wanted: loading 5", readsBeforeAPage(5, 0), 3);
        Due.is("read when wanted: choosing of 2", readsBeforeAPage(2, 1), 2);
        Due.is("read when wanted: choosing of 3", readsBeforeAPage(3, 1), 2);
        Due.is("read when wanted: choosing of 4", readsBeforeAPage(4, 1), 3);
        Due.is("read when wanted: as they are", readsBeforeAPage(64, 2), 1);
    }

    private static void runsComeBehind() {
        BlockSorter x = new BlockSorter(20, 5, 2);
        feedAll(x, 9, 8);
        x.form(0);
        feedAll(x, 3, 2, 1);
        Due.is("behind those that there are", x.form(0), 3);
        Due.is("behind those that there are: contents", contents(x), "8 9 | 2 3 | 1");
    }

    private static void pageAtARunsEnd() {
        BlockSorter whole = new BlockSorter(20, 5, 2);
        feedAll(whole, 2, 1);
        whole.form(0);
        Due.is("at the RUN's end nothing is on the page", whole.count(1), 2);
        BlockSorter more = new BlockSorter(20, 5, 3);
        feedAll(more, 3, 2, 1);
        more.form(0);
        Due.is("at the RUN's end one is on the page", more.count(1) + ", " + allBlocks(more),
                "4, 2 3");
        for (int way = 0; way < 3; way++) {
            BlockSorter x = new BlockSorter(20, 5, 2);
            feedAll(x, 1, 2);
            x.mode(1);
            x.form(way);
            Due.is("a page that the last one fills, way " + way, x.count(1), 2);
        }
    }

    private static void loading() {
        String[] want = {"", "1", "1 2", "1 2 3", "1 2 3 | 4", "1 2 3 | 4 5", "1 2 3 | 4 5 6",
            "1 2 3 | 4 5 6 | 7"};
        for (int n = 0; n < want.length; n++) {
            BlockSorter x = new BlockSorter(20, 5, 3);
            for (int i = 1; i <= n; i++) {
                // within each load the greatest one comes first
                feedAll(x, i % 3 == 1 ? Math.min(i + 2, n) : i - 1);
            }
            x.form(0);
            Due.is("M records, or as many as there are: " + n, contents(x), want[n]);
        }
    }

    private static void choosing() {
        BlockSorter few = new BlockSorter(20, 5, 5);
        feedAll(few, 4, 1, 3, 2);
        Due.is("choosing of fewer than M", few.form(1), 1);
        Due.is("choosing of fewer than M: contents", contents(few), "1 2 3 4");
        BlockSorter all = new BlockSorter(20, 5, 4);
        feedAll(all, 4, 1, 3, 2);
        Due.is("choosing of M", all.form(1), 1);
        BlockSorter more = new BlockSorter(20, 5, 4);
        feedAll(more, 4, 2, 3, 5, 1);
        Due.is("choosing of one more than M", more.form(1), 2);
        Due.is("choosing of one more than M: contents", contents(more), "2 3 4 5 | 1");
        BlockSorter next = new BlockSorter(30, 5, 3);
        // 3 goes, 1 is for the next; 5 goes, 6 comes; 6 goes, 2 is for the next; 8 goes, 0 is
        // for the next: none belongs to this one; 0 goes, 7 comes; 1 2 7 go
        feedAll(next, 8, 5, 3, 1, 6, 2, 0, 7);
        Due.is("the next one begins", next.form(1), 2);
        Due.is("the next one begins: contents", contents(next), "3 5 6 8 | 0 1 2 7");
    }

    private static void choosingByWhatWentOut() {
        BlockSorter same = new BlockSorter(20, 5, 2);
        feedAll(same, 5, 6, 5, 5, 6, 6, 5);
        // 5 goes, 5; 5 goes, 5; 5 goes, 6; 6 goes, 6; 6 goes, and 5 is for the next
        Due.is("not BEFORE the one that went out", same.form(1), 2);
        Due.is("not BEFORE the one that went out: numbers", contents(same, 1), "0 2 3 1 4 5 | 6");
        BlockSorter down = new BlockSorter(20, 5, 2);
        down.key(0, true);
        feedAll(down, 1, 2, 3, 1);
        // 2 goes, 3 is for the next; 1 goes, 1 comes; 1 goes; then 3
        Due.is("BEFORE by a KEY down", down.form(1), 2);
        Due.is("BEFORE by a KEY down: contents", contents(down), "2 1 1 | 3");
    }

    private static void asTheyAre() {
        BlockSorter x = new BlockSorter(20, 5, 2);
        feedAll(x, 5, 5, 6, 6, 5, 5, 4);
        Due.is("a RUN ends before one that is BEFORE", x.form(2), 3);
        Due.is("equal ones do not end it", contents(x), "5 5 6 6 | 5 5 | 4");
        BlockSorter one = new BlockSorter(20, 5, 2);
        feedAll(one, 5);
        Due.is("one as it is", one.form(2) + ", " + contents(one), "1, 5");
        BlockSorter rising = new BlockSorter(200, 5, 2);
        for (int i = 0; i < 150; i++) {
            feedAll(rising, i);
        }
        Due.is("as they are: more than MEMORY holds", rising.form(2) + " " + rising.records(0),
                "1 150");
        BlockSorter folded = new BlockSorter(20, 5, 2);
        folded.mode(1);
        feedAll(folded, 5, 7, 7, 6);
        Due.is("BEFORE the one that came last, not the page's", folded.form(2), 2);
        Due.is("BEFORE the one that came last: contents", contents(folded), "5 7 | 6");
    }

    private static void allGoOut() {
        for (int way = 0; way < 3; way++) {
            BlockSorter x = new BlockSorter(20, 5, 9);
            feedAll(x, 4, 4, 4);
            x.form(way);
            Due.is("MODE 0: all go out, way " + way, contents(x), "4 4 4");
        }
    }

    private static void oneGoesOut() {
        for (int way = 0; way < 3; way++) {
            BlockSorter x = new BlockSorter(20, 5, 9);
            x.mode(1);
            feedAll(x, 1, 1, 2, 2, 2, 3, 4, 4);
            x.form(way);
            Due.is("ONE: the first alone, way " + way, contents(x, 1), "0 2 5 6");
            Due.is("ONE: pages of what is left, way " + way, x.count(1), 4 + 2);
            Due.is("ONE: all came, way " + way, x.count(5), 8);
        }
        BlockSorter two = new BlockSorter(20, 5, 2);
        two.mode(1);
        feedAll(two, 3, 3, 3, 3);
        Due.is("ONE: of a RUN alone", two.form(0), 2);
        Due.is("ONE: of a RUN alone: contents", contents(two), "3 | 3");
        two.pass(2);
        Due.is("ONE: also in merging", contents(two, 1), "0");
        BlockSorter apart = new BlockSorter(20, 5, 2);
        feedAll(apart, 3, 3);
        apart.form(0);
        apart.mode(1);
        feedAll(apart, 1);
        apart.form(0);
        Due.is("ONE: not of what is there", contents(apart), "3 3 | 1");
        apart.mode(0);
        apart.pass(2);
        Due.is("ONE: not any more", contents(apart), "1 3 3");
    }

    private static BlockSorter summing(int memory) {
        BlockSorter x = new BlockSorter(40, 6, memory);
        x.width(2);
        x.key(0, false);
        x.mode(2);
        return x;
    }

    private static void sumGoesOut() {
        for (int way = 0; way < 3; way++) {
            BlockSorter x = summing(9);
            x.feed(1, 10, 0, 0);
            x.feed(2, 20, 0, 0);
            x.feed(2, 30, 0, 0);
            x.feed(2, 40, 0, 0);
            x.feed(3, 50, 0, 0);
            x.feed(3, Long.MIN_VALUE, 0, 0);
            x.feed(4, Long.MAX_VALUE, 0, 0);
            x.feed(4, 1, 0, 0);
            x.form(way);
            Due.is("SUM: of all theirs, way " + way, contents(x, 1),
                    "10 90 " + (Long.MIN_VALUE + 50) + " " + Long.MIN_VALUE);
            Due.is("SUM: else the first one, way " + way, contents(x, 2), "0 1 4 6");
        }
        BlockSorter merged = summing(2);
        for (int i = 0; i < 8; i++) {
            merged.feed(i / 4, 1, 0, 0);
        }
        merged.form(0);
        Due.is("SUM: of a RUN alone", contents(merged, 1), "2 | 2 | 2 | 2");
        merged.best(2);
        Due.is("SUM: also in merging", contents(merged, 1), "4 4");
        BlockSorter wide = new BlockSorter(20, 64, 9);
        wide.width(4);
        wide.key(2, true);
        wide.mode(2);
        wide.feed(1, 2, 3, 4);
        wide.feed(5, 6, 3, 8);
        wide.form(0);
        Due.is("SUM: the last column alone", contents(wide, 0) + " " + contents(wide, 1) + " "
                + contents(wide, 2) + " " + contents(wide, 3), "1 2 3 12");
    }

    private static void sumThatIsOne() {
        BlockSorter keyed = new BlockSorter(20, 6, 9);
        keyed.width(2);
        keyed.key(0, false);
        keyed.key(1, true);
        keyed.mode(2);
        keyed.feed(1, 5, 0, 0);
        keyed.feed(1, 5, 0, 0);
        keyed.feed(1, 4, 0, 0);
        keyed.form(0);
        Due.is("SUM: the last column is a KEY", contents(keyed, 1), "5 4");
        BlockSorter only = new BlockSorter(20, 6, 9);
        only.key(0, false);
        only.mode(2);
        feedAll(only, 5, 5, 5);
        only.form(0);
        Due.is("SUM: the only column is a KEY", contents(only), "5");
        BlockSorter bare = new BlockSorter(20, 6, 9);
        bare.width(2);
        bare.mode(2);
        bare.feed(1, 5, 0, 0);
        bare.feed(1, 5, 0, 0);
        bare.feed(1, 6, 0, 0);
        bare.form(0);
        Due.is("SUM: there are no KEYS", contents(bare, 1), "5 6");
    }

    /** READS before the first page is not written; PER is 1. */
    private static int readsTillThePage(int mode, long... values) {
        BlockSorter x = new BlockSorter(20, 5, 2);
        x.width(4);
        x.mode(mode);
        feedAll(x, values);
        x.crash(0);
        x.form(2);
        return x.count(0);
    }

    private static void whenARecordIsOnThePage() {
        Due.is("on the page at once", readsTillThePage(0, 1, 1, 2, 3), 1);
        Due.is("on the page with the next not ALIKE", readsTillThePage(1, 1, 1, 2, 3), 3);
        Due.is("on the page with the next not ALIKE, SUM", readsTillThePage(2, 1, 1, 2, 3), 3);
        Due.is("on the page when the RUN ends", readsTillThePage(1, 1, 1, 0), 3);
        Due.is("on the page when all ends", readsTillThePage(1, 1, 1, 1), 3);
        BlockSorter x = new BlockSorter(40, 5, 2);
        feedAll(x, 1, 1, 2, 2, 3, 3);
        x.form(2);
        x.mode(1);
        feedAll(x, 1, 3);
        x.form(2);
        x.pass(2);
        Due.is("it counts once", x.records(0) + ", " + contents(x, 1), "3, 0 2 4");
    }

    private static void toldByWhatWasChosen() {
        for (int mode = 0; mode < 3; mode++) {
            BlockSorter x = new BlockSorter(20, 64, 2);
            x.mode(mode);
            // 1 goes, 7 comes; 5 goes, and 3 is BEFORE it, though not BEFORE the page's 1
            feedAll(x, 1, 5, 7, 3);
            Due.is("told by what was chosen, MODE " + mode, x.form(1), 2);
            Due.is("told by what was chosen: contents, MODE " + mode, contents(x), "1 5 7 | 3");
        }
        BlockSorter y = summing(2);
        y.feed(5, -9, 0, 0);
        y.feed(5, -9, 0, 0);
        y.feed(5, 1, 0, 0);
        y.feed(4, 1, 0, 0);
        Due.is("told by what was chosen, with a sum", y.form(1), 2);
        Due.is("told by what was chosen, with a sum: contents", contents(y, 1), "-17 | 1");
    }

    private static void memoryIsEmptyFirst() {
        for (int before = 0; before < 3; before++) {
            for (int way = 0; way < 3; way++) {
                BlockSorter x = new BlockSorter(20, 5, 5);
                feedAll(x, 6, 5, 4, 3, 2, 1);
                x.crash(0);
                x.form(before);
                x.up();
                x.form(way);
                String want = way == 0 ? "2 3 4 5 6 | 1" : way == 1 ? "2 3 4 5 6 | 1"
                        : "6 | 5 | 4 | 3 | 2 | 1";
                Due.is("M records are read, by way " + way + " behind a failed " + before,
                        contents(x), want);
            }
        }
    }

    private static void inputIsGone() {
        for (int way = 0; way < 3; way++) {
            BlockSorter x = five();
            int runs = x.form(way);
            Due.is("the INPUT is gone, way " + way, x.records(NONE) + " " + x.count(7), "0 0");
            Due.index("its blocks are gone, way " + way, () -> x.block(NONE, 0));
            Due.is("the RUNS are there, way " + way, x.runs(), runs);
            Due.is("all came, way " + way, x.count(5), 5);
            Due.is("again nothing comes, way " + way, x.form(way), runs);
        }
    }
}
