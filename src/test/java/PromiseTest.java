/** Each promise by itself: ordinary inputs, the edges that the document names, wrong inputs. */
public final class PromiseTest extends Bench {
    private PromiseTest() {
    }

    public static void main(String[] args) {
        newObject();
        width();
        key();
        mode();
        feed();
        run();
        formByLoading();
        formByChoosing();
        formAsTheyAre();
        formWithModes();
        formInTrouble();
        pass();
        passInTrouble();
        best();
        poly();
        polyInTrouble();
        plan();
        looks();
        rank();
        drop();
        count();
        crashAndUp();
        order();
        whatComesFirst();
        Due.end();
    }

    // ---- promise 1

    private static void newObject() {
        BlockSorter x = new BlockSorter(17, 9, 3);
        Due.is("1 free blocks", x.count(4), 17);
        Due.is("1 PER", x.count(6), 4);
        Due.is("1 moves", moves(x), "0 0 0 0");
        Due.is("1 runs", x.runs(), 0);
        Due.is("1 came", x.count(5), 0);
        Due.is("1 width", x.count(10), 1);
        Due.is("1 mode", x.count(9), 0);
        BlockSorter least = new BlockSorter(Integer.MIN_VALUE, Integer.MIN_VALUE, Integer.MIN_VALUE);
        Due.is("1 least blocks", least.count(4), 2);
        Due.is("1 least PER", least.count(6), 2);
        BlockSorter most = new BlockSorter(Integer.MAX_VALUE, Integer.MAX_VALUE, Integer.MAX_VALUE);
        Due.is("1 most blocks", most.count(4), 200);
        Due.is("1 most PER", most.count(6), 32);
        most.run(5, 1000, 130);
        Due.is("1 most memory", most.form(0), 3);
        Due.is("1 most memory, a run", most.records(0), 64);
        BlockSorter little = new BlockSorter(20, 5, -7);
        feedAll(little, 6, 5, 4, 3, 2, 1);
        Due.is("1 least memory", little.form(0), 3);
    }

    // ---- promise 2

    private static void width() {
        BlockSorter x = new BlockSorter(9, 13, 2);
        x.width(4);
        Due.is("2 width", x.count(10), 4);
        Due.is("2 PER of 13 by 5", x.count(6), 2);
        x.key(3, true);
        x.width(4);
        Due.is("2 keys are gone", x.count(8), 0);
        x.width(1);
        Due.is("2 PER of 13 by 2", x.count(6), 6);
        Due.argument("2 width 0", () -> x.width(0));
        Due.argument("2 width 5", () -> x.width(5));
        Due.argument("2 width least", () -> x.width(Integer.MIN_VALUE));
        x.feed(1, 2, 3, 4);
        Due.state("2 a record on the desk", () -> x.width(2));
        feedAll(x, 2, 3, 4, 5, 6);
        Due.is("2 desk empty", x.count(7), 0);
        Due.state("2 records in the input", () -> x.width(2));
        x.form(0);
        Due.state("2 records in runs", () -> x.width(2));
        while (x.runs() > 0) {
            x.drop(0);
        }
        x.width(2);
        Due.is("2 width behind drop", x.count(10), 2);
        Due.is("2 numbers go on", x.feed(1, 2, 3, 4), 6);
    }

    // ---- promise 3

    private static void key() {
        BlockSorter x = new BlockSorter(9, 20, 2);
        Due.index("3 column 1 of 1", () -> x.key(1, false));
        x.width(4);
        Due.index("3 column -1", () -> x.key(-1, false));
        Due.index("3 column 4", () -> x.key(4, false));
        Due.is("3 first", x.key(2, true), 1);
        Due.is("3 second", x.key(0, false), 2);
        Due.argument("3 twice", () -> x.key(2, true));
        Due.argument("3 twice, the other way", () -> x.key(2, false));
        Due.is("3 third", x.key(1, true), 3);
        Due.is("3 fourth", x.key(3, true), 4);
        Due.is("3 counted", x.count(8), 4);
        Due.argument("3 a fifth", () -> x.key(3, true));
        BlockSorter y = new BlockSorter(9, 20, 2);
        y.width(2);
        y.feed(1, 2, 0, 0);
        Due.is("3 with a record that came", y.key(1, false), 1);
        y.form(0);
        Due.state("3 with a run", () -> y.key(0, false));
        Due.argument("3 with a run, twice", () -> y.key(1, false));
        Due.index("3 with a run, no column", () -> y.key(2, false));
        y.drop(0);
        Due.is("3 without a run", y.key(0, false), 2);
    }

    // ---- promise 4

    private static void mode() {
        BlockSorter x = new BlockSorter(9, 20, 2);
        Due.is("4 was 0", x.mode(2), 0);
        Due.is("4 was 2", x.mode(1), 2);
        Due.argument("4 mode 3", () -> x.mode(3));
        Due.argument("4 mode -1", () -> x.mode(-1));
        Due.is("4 counted", x.count(9), 1);
        Due.is("4 was 1", x.mode(0), 1);
    }

    // ---- promise 5

    private static void feed() {
        BlockSorter x = new BlockSorter(2, 7, 2);
        x.width(2);
        Due.is("5 PER", x.count(6), 2);
        Due.is("5 number 0", x.feed(11, 12, 13, 14), 0);
        Due.is("5 on the desk", x.count(7), 1);
        Due.is("5 nothing written", moves(x), "0 0 0 0");
        Due.is("5 number 1", x.feed(21, 22, 23, 24), 1);
        Due.is("5 desk empty", x.count(7), 0);
        Due.is("5 written", moves(x), "0 1 0 0");
        x.feed(31, 32, 0, 0);
        x.crash(0);
        Due.is("5 power fails", x.feed(41, 42, 0, 0), DOWN);
        Due.is("5 it did not come", x.count(5), 3);
        Due.is("5 the desk is kept", x.count(7), 1);
        Due.is("5 the block is free", x.count(4), 1);
        Due.state("5 down", () -> x.feed(1, 1, 1, 1));
        x.up();
        Due.is("5 comes now", x.feed(51, 52, 0, 0), 3);
        Due.is("5 second block", blocks(x, NONE), "0 1");
        Due.is("5 way", moves(x), "0 2 1 1");
        Due.is("5 desk still takes one", x.feed(61, 62, 0, 0), 4);
        Due.full("5 full", () -> x.feed(71, 72, 0, 0));
        Due.is("5 full: it did not come", x.count(5), 5);
        Due.is("5 full: the desk is kept", x.count(7), 1);
        Due.is("5 full is not down", x.count(11), 0);
        x.crash(0);
        Due.full("5 full before power", () -> x.feed(71, 72, 0, 0));
        BlockSorter one = new BlockSorter(3, 5, 2);
        one.width(4);
        one.feed(1, 2, 3, 4);
        Due.is("5 PER 1 goes at once", moves(one), "0 1 0 0");
        one.form(2);
        Due.is("5 columns", one.told(0, 0, 0) + " " + one.told(0, 0, 1) + " " + one.told(0, 0, 2)
                + " " + one.told(0, 0, 3) + " " + one.told(0, 0, 4), "1 2 3 4 0");
    }

    // ---- promise 6

    private static void run() {
        BlockSorter x = new BlockSorter(9, 12, 2);
        x.width(2);
        Due.is("6 how many", x.run(0, 1000000000, 2), 2);
        x.form(2);
        // x becomes 1442695040888963407, 1876011003808476466, 11166244414315200793 (without a
        // sign) and 7401132627792533940; shifted by 33 bits 167951807, 218396424, 1299921937
        // and 861605236
        Due.is("6 first record", x.told(0, 0, 0) + " " + x.told(0, 0, 1), "167951807 218396424");
        Due.is("6 second record", x.told(0, 1, 0) + " " + x.told(0, 1, 1), "299921937 861605236");
        BlockSorter ones = new BlockSorter(9, 12, 2);
        Due.is("6 none", ones.run(1, 1, 0), 0);
        Due.is("6 span 1", ones.run(-1, 1, 3), 3);
        ones.form(2);
        Due.is("6 span 1 gives 0", contents(ones), "0 0 0");
        Due.argument("6 span 0", () -> x.run(1, 0, 1));
        Due.argument("6 span above", () -> x.run(1, 1000000001, 1));
        Due.argument("6 span least", () -> x.run(1, Integer.MIN_VALUE, 1));
        Due.argument("6 n below", () -> x.run(1, 1, -1));
        Due.argument("6 n above", () -> x.run(1, 1, 301));
        BlockSorter wide = new BlockSorter(200, 64, 2);
        Due.is("6 most", wide.run(7, 1000000000, 300), 300);
        Due.is("6 most came", wide.count(5), 300);
        BlockSorter small = new BlockSorter(2, 5, 2);
        Due.is("6 till full", small.run(7, 10, 300), 5);
        Due.is("6 full again", small.run(7, 10, 300), 0);
        BlockSorter dark = new BlockSorter(20, 5, 2);
        dark.crash(1);
        Due.is("6 till power fails", dark.run(7, 10, 300), 3);
        Due.is("6 is down", dark.count(11), 1);
        Due.state("6 down", () -> dark.run(7, 10, 0));
        Due.argument("6 down and wrong", () -> dark.run(7, 0, 0));
    }

    // ---- promise 7

    private static void formByLoading() {
        BlockSorter x = five();
        Due.is("7 fed", moves(x), "0 2 1 1");
        Due.argument("7 way 3", () -> x.form(3));
        Due.argument("7 way -1", () -> x.form(-1));
        // desk to 2; 0 read, 3 written; 1 read, 4 written; 2 read, 5 written
        Due.is("7 loading", x.form(0), 3);
        Due.is("7 loading moves", moves(x), "3 6 17 5");
        Due.is("7 loading frees", x.count(4), 7);
        Due.is("7 loading input", x.records(NONE), 0);
        Due.is("7 loading desk", x.count(7), 0);
        Due.is("7 loading blocks", blocks(x, 0) + " " + blocks(x, 1) + " " + blocks(x, 2), "3 4 5");
        Due.is("7 loading runs", contents(x), "3 5 | 1 7 | 2");
        Due.is("7 loading numbers", contents(x, 1), "1 0 | 3 2 | 4");
        Due.is("7 nothing there", x.form(1), 3);
        feedAll(x, 9, 8);
        Due.is("7 behind those that there are", x.form(0), 4);
        Due.is("7 all runs", contents(x), "3 5 | 1 7 | 2 | 8 9");
        // M = 3 with PER = 2: a run's records come from two blocks, and its last page is short
        BlockSorter y = new BlockSorter(20, 5, 3);
        feedAll(y, 6, 5, 4, 3, 2, 1);
        // written 0 1 2 (way 2); read 0 1 (2 + 1), written 3 4 (2 + 1); read 2 (2), written 5 6 (4)
        Due.is("7 loading by 3", y.form(0), 2);
        Due.is("7 loading by 3 moves", moves(y), "3 7 14 6");
        Due.is("7 loading by 3 runs", contents(y), "4 5 6 | 1 2 3");
    }

    private static void formByChoosing() {
        BlockSorter x = five();
        // 5 3: 3 goes, 7 comes; 5 goes (5 on block 3), 1 comes for the next; 7 goes, 2 comes
        // for the next; the run ends; 1 and 2 go
        Due.is("7 choosing", x.form(1), 2);
        // 2 written; read 0 (2); read 1 (1); written 3 (2); read 2 (1); written 4 (2); 5 (1)
        Due.is("7 choosing moves", moves(x), "3 6 11 5");
        Due.is("7 choosing runs", contents(x), "3 5 7 | 1 2");
        Due.is("7 choosing blocks", blocks(x, 0) + " " + blocks(x, 1), "3 4 5");
        BlockSorter up = new BlockSorter(30, 5, 2);
        feedAll(up, 1, 2, 3, 4, 5, 6, 7, 8);
        Due.is("7 choosing what is in order", up.form(1), 1);
        BlockSorter down = new BlockSorter(30, 5, 2);
        feedAll(down, 8, 7, 6, 5, 4, 3, 2, 1);
        Due.is("7 choosing what falls", down.form(1), 4);
        Due.is("7 choosing what falls: runs", contents(down), "7 8 | 5 6 | 3 4 | 1 2");
        BlockSorter same = new BlockSorter(30, 5, 2);
        feedAll(same, 2, 2, 2, 2, 1);
        Due.is("7 choosing equal ones", same.form(1), 2);
        Due.is("7 choosing equal ones: numbers", contents(same, 1), "0 1 2 3 | 4");
    }

    private static void formAsTheyAre() {
        BlockSorter x = five();
        // 2 written; 0 read (2): 5; 3 is before: 3 written (3); 1 read (2): 3 7 written to 4 (3);
        // 1 is before; 2 read (2): 1 2 written to 5 (3)
        Due.is("7 as they are", x.form(2), 3);
        Due.is("7 as they are: moves", moves(x), "3 6 17 5");
        Due.is("7 as they are: runs", contents(x), "5 | 3 7 | 1 2");
        // the next block is read before the run's last page is written
        BlockSorter y = new BlockSorter(20, 5, 2);
        y.width(4);
        y.feed(2, 0, 0, 0);
        y.feed(1, 0, 0, 0);
        y.mode(1);
        // written 0 1 (1); read 0 (1), read 1 (1), written 2 (1) and 3 (1)
        Due.is("7 as they are, PER 1", y.form(2), 2);
        Due.is("7 as they are, PER 1: moves", moves(y), "2 4 5 3");
        BlockSorter z = new BlockSorter(20, 5, 2);
        z.width(4);
        z.feed(2, 0, 0, 0);
        z.feed(1, 0, 0, 0);
        // all go out at once: written 0 1 (1); read 0 (1), written 2 (2); read 1 (1), written 3 (2)
        z.form(2);
        Due.is("7 as they are, MODE 0: moves", moves(z), "2 4 7 3");
    }

    private static void formWithModes() {
        BlockSorter one = new BlockSorter(20, 64, 8);
        one.width(3);
        one.key(0, false);
        one.mode(1);
        one.feed(1, 10, 100, 0);
        one.feed(1, 20, 200, 0);
        one.feed(2, 30, 300, 0);
        one.feed(1, 40, 400, 0);
        Due.is("7 ONE", one.form(0), 1);
        Due.is("7 ONE records", one.records(0), 2);
        Due.is("7 ONE columns", contents(one, 1) + ", " + contents(one, 2), "10 30, 100 300");
        BlockSorter sum = new BlockSorter(20, 64, 8);
        sum.width(3);
        sum.key(0, false);
        sum.mode(2);
        sum.feed(1, 10, Long.MAX_VALUE, 0);
        sum.feed(1, 20, 2, 0);
        sum.feed(2, 30, 300, 0);
        sum.feed(1, 40, 1, 0);
        sum.form(0);
        Due.is("7 SUM columns", contents(sum, 1), "10 30");
        Due.is("7 SUM runs over", sum.told(0, 0, 2), Long.MIN_VALUE + 2);
        Due.is("7 SUM alone", sum.told(0, 1, 2), 300);
        Due.is("7 SUM numbers", contents(sum, 3), "0 2");
        BlockSorter keyed = new BlockSorter(20, 64, 8);
        keyed.width(2);
        keyed.key(1, true);
        keyed.mode(2);
        keyed.feed(1, 5, 0, 0);
        keyed.feed(2, 5, 0, 0);
        keyed.feed(3, 6, 0, 0);
        keyed.form(0);
        Due.is("7 SUM of a key is ONE", contents(keyed, 0) + ", " + contents(keyed, 1), "3 1, 6 5");
        BlockSorter bare = new BlockSorter(20, 64, 8);
        bare.mode(2);
        feedAll(bare, 4, 4, 4);
        bare.form(0);
        Due.is("7 SUM without keys is ONE", contents(bare), "4");
        BlockSorter whole = new BlockSorter(20, 64, 8);
        whole.width(2);
        whole.mode(1);
        whole.feed(4, 1, 0, 0);
        whole.feed(4, 2, 0, 0);
        whole.feed(4, 1, 0, 0);
        whole.form(0);
        Due.is("7 ONE without keys: all columns", contents(whole, 1), "1 2");
        BlockSorter apart = new BlockSorter(20, 64, 8);
        apart.mode(1);
        feedAll(apart, 3, 3, 2, 3, 3);
        Due.is("7 ONE of each run", apart.form(2), 2);
        Due.is("7 ONE of each run: records", contents(apart), "3 | 2 3");
    }

    private static void formInTrouble() {
        for (int way = 0; way < 3; way++) {
            for (int n = 0; n < 4; n++) {
                BlockSorter x = five();
                x.crash(n);
                String what = "7 way " + way + " and power for " + n;
                Due.is(what, x.form(way), DOWN);
                Due.is(what + ": down", x.count(11), 1);
                Due.is(what + ": runs", x.runs(), 0);
                Due.is(what + ": writes", x.count(1), 2 + n);
                Due.is(what + ": free", x.count(4), 8);
                Due.is(what + ": input", x.records(NONE), 5);
                Due.is(what + ": blocks", blocks(x, NONE), "0 1");
                Due.index(what + ": no third block", () -> x.block(NONE, 2));
                Due.is(what + ": desk", x.count(7), 1);
                Due.is(what + ": up", x.up(), 0);
                x.form(way);
                x.best(8);
                Due.is(what + ": nothing is lost", contents(x), "1 2 3 5 7");
            }
        }
        BlockSorter x = five();
        x.crash(2);
        // desk to 2; 0 read, 3 written; 1 read, and 4 is not written
        x.form(0);
        Due.is("7 power fails: moves", moves(x), "2 4 9 1");
        BlockSorter last = five();
        last.crash(4);
        Due.is("7 power for all of it", last.form(0), 3);
        Due.is("7 power for no more", last.feed(1, 0, 0, 0), 5);
        Due.is("7 power fails then", last.feed(1, 0, 0, 0), DOWN);
        BlockSorter small = new BlockSorter(4, 5, 2);
        feedAll(small, 5, 3, 7, 1, 2);
        Due.full("7 full", () -> small.form(0));
        // desk to 2; 0 read, 3 written; 1 read, and none is free
        Due.is("7 full: moves", moves(small), "2 4 9 1");
        Due.is("7 full: not down", small.count(11), 0);
        Due.is("7 full: as before", small.records(NONE) + " " + small.count(7) + " " + small.count(4)
                + " " + small.runs() + " " + blocks(small, NONE), "5 1 2 0 0 1");
        Due.is("7 full: the desk goes on", small.feed(9, 0, 0, 0), 5);
        Due.is("7 full: its block", blocks(small, NONE), "0 1 2");
    }

    // ---- promise 8

    private static void pass() {
        BlockSorter x = five();
        x.form(0);
        Due.argument("8 fan 1", () -> x.pass(1));
        Due.argument("8 fan 9", () -> x.pass(9));
        // read 3 (2), 4 (1); 1 3 written to 0 (4); 5 7 written to 1 (1)
        Due.is("8 pass", x.pass(2), 2);
        Due.is("8 pass: moves", moves(x), "5 8 25 1");
        Due.is("8 pass: blocks", blocks(x, 0) + ", " + blocks(x, 1), "0 1, 5");
        Due.is("8 pass: free", x.count(4), 7);
        // read 0 (1), 5 (5); 1 2 written to 2 (3); behind 3 read 1 (1); 3 5 written to 3 (2);
        // 7 written to 4 (1)
        Due.is("8 pass again", x.pass(2), 1);
        Due.is("8 pass again: moves", moves(x), "8 11 38 4");
        Due.is("8 pass again: run", contents(x), "1 2 3 5 7");
        Due.is("8 a run alone", x.pass(8), 1);
        BlockSorter none = new BlockSorter(9, 9, 9);
        Due.is("8 no run", none.pass(2), 0);
        BlockSorter y = fourRuns(20);
        Due.is("8 groups of 3, one alone", y.pass(3), 2);
        Due.is("8 groups of 3: runs", contents(y), "4 5 6 7 8 9 | 3");
        BlockSorter sum = new BlockSorter(20, 64, 2);
        sum.width(2);
        sum.key(0, false);
        for (int i = 0; i < 6; i++) {
            sum.feed(i % 2, 1, 0, 0);
        }
        sum.form(0);
        sum.mode(2);
        Due.is("8 SUM", sum.pass(8), 1);
        Due.is("8 SUM: columns", contents(sum, 0) + ", " + contents(sum, 1) + ", "
                + contents(sum, 2), "0 1, 3 3, 0 1");
    }

    private static void passInTrouble() {
        BlockSorter x = fourRuns(20);
        int free = x.count(4);
        x.crash(2);
        // 6 7 and 8 9 are written; the second group is not
        Due.is("8 power fails in the second group", x.pass(2), DOWN);
        Due.is("8 power fails: runs", x.runs(), 3);
        Due.is("8 power fails: records", x.records(0) + " " + x.records(1) + " " + x.records(2),
                "4 2 1");
        Due.state("8 down", () -> x.pass(2));
        Due.argument("8 down and wrong", () -> x.pass(9));
        Due.is("8 up", x.up(), 3);
        Due.is("8 power fails: contents", contents(x), "6 7 8 9 | 4 5 | 3");
        Due.is("8 power fails: free", x.count(4), free + 1);
        Due.is("8 goes on", x.pass(8), 1);
        Due.is("8 goes on: contents", contents(x), "3 4 5 6 7 8 9");
        // 4 of 6 blocks hold runs of one record each: a group of two fits, one of four does not
        BlockSorter y = fallingRuns(6, 3);
        y.feed(9, 0, 0, 0);
        y.form(2);
        Due.is("8 four runs of six blocks", y.runs() + " " + y.count(4), "4 2");
        Due.full("8 full", () -> y.pass(4));
        Due.is("8 full: as before", contents(y) + ", " + y.count(4), "3 | 2 | 1 | 9, 2");
        groupsBeforeAreMerged();
    }

    private static void groupsBeforeAreMerged() {
        // PER is 2: runs 5, 6, then 1 2 3 and 1 2 3; 2 of 8 blocks are free
        BlockSorter x = new BlockSorter(8, 5, 2);
        feedAll(x, 6);
        x.form(2);
        feedAll(x, 5);
        x.form(2);
        feedAll(x, 1, 2, 3);
        x.form(2);
        feedAll(x, 1, 2, 3);
        x.form(2);
        Due.is("8 two blocks are free", x.count(4), 2);
        // 5 6 take one block and free two; then 1 1, 2 2, 3 3 need three, and there are three
        Due.is("8 fits", x.pass(2), 2);
        Due.is("8 fits: contents", contents(x), "5 6 | 1 1 2 2 3 3");
        BlockSorter y = new BlockSorter(8, 5, 2);
        feedAll(y, 6);
        y.form(2);
        feedAll(y, 5);
        y.form(2);
        feedAll(y, 1, 2, 3);
        y.form(2);
        feedAll(y, 1, 2, 3);
        y.form(2);
        feedAll(y, 7, 7);
        Due.full("8 full in the second group", () -> y.pass(2));
        Due.is("8 the group before is merged", contents(y) + ", " + y.count(4),
                "5 6 | 1 2 3 | 1 2 3, 2");
    }

    // ---- promise 9

    private static void best() {
        BlockSorter none = new BlockSorter(9, 9, 9);
        Due.is("9 no run", none.best(2), 0);
        BlockSorter x = fourRuns(20);
        Due.argument("9 fan 1", () -> x.best(1));
        Due.argument("9 fan 9", () -> x.best(9));
        Due.is("9 blocks", blocks(x, 0) + ", " + blocks(x, 1) + ", " + blocks(x, 2) + ", "
                + blocks(x, 3), "4 5, 6, 7, 8");
        Due.is("9 moves before", x.count(3), 8);
        x.crash(1);
        // of 4 with a fan of 3 two are merged first: 6 and 3, and 3 6 come behind all; then all
        Due.is("9 power fails behind the first", x.best(3), DOWN);
        x.up();
        Due.is("9 the first two", contents(x), "7 8 9 | 4 5 | 3 6");
        Due.is("9 the rest", x.best(3), 1);
        Due.is("9 the run", contents(x), "3 4 5 6 7 8 9");
        Due.is("9 one run", x.best(2), 1);
        BlockSorter y = fourRuns(20);
        int way = y.count(2);
        int reads = y.count(0);
        y.crash(0);
        y.best(3);
        // read 6 and 8 in the order they stand in
        Due.is("9 in their order", y.count(2) - way, 4);
        Due.is("9 in their order: reads", y.count(0) - reads, 2);
        y.up();
        way = y.count(2);
        y.crash(1);
        y.best(2);
        // read 6 (2) and 8 (2), written 0 (8); then of 3, 2, 2 the two last: read 7 (7), 0 (7)
        Due.is("9 the last two stand in order", y.count(2) - way, 26);
        Due.is("9 runs then", y.runs(), 3);
        BlockSorter equal = fallingRuns(30, 5);
        equal.crash(3);
        // 5 of a fan of 4: 2 + 3 % 3 = 2 are merged first, the first ones; then all four
        equal.best(4);
        equal.up();
        Due.is("9 of the same number the first ones", contents(equal), "3 | 2 | 1 | 4 5");
        BlockSorter all = fallingRuns(30, 8);
        int before = all.count(0);
        Due.is("9 fan 8", all.best(8), 1);
        Due.is("9 fan 8 at once", all.count(0) - before, 8);
        BlockSorter seven = fallingRuns(30, 7);
        before = seven.count(0);
        // 7 of a fan of 3: 2 + 5 % 2 = 3, then 5 are left: 3, then 3 (of 1, 3, 3 records)
        Due.is("9 fan 3", seven.best(3), 1);
        Due.is("9 fan 3 reads", seven.count(0) - before, 3 + 3 + 7);
        BlockSorter full = fallingRuns(8, 4);
        full.feed(9, 0, 0, 0);
        full.feed(9, 0, 0, 0);
        // 4 3 and 2 1 fit the two blocks that are free, all four do not
        Due.full("9 full", () -> full.best(2));
        Due.is("9 full: those before are merged", contents(full), "3 4 | 1 2");
    }

    // ---- promise 10

    private static void poly() {
        BlockSorter none = new BlockSorter(9, 9, 9);
        Due.is("10 no run", none.poly(3), 0);
        Due.argument("10 tapes 2", () -> none.poly(2));
        Due.argument("10 tapes 7", () -> none.poly(7));
        BlockSorter one = fallingRuns(9, 1);
        String before = moves(one);
        Due.is("10 one run", one.poly(6), 1);
        Due.is("10 one run: nothing moves", moves(one), before);
        BlockSorter five = fallingRuns(40, 5);
        int reads = five.count(0);
        // tapes: 5 3 2 and 4 1; 5 4, 3 1; then 4 5 and 2; then 2 4 5 and 1 3
        Due.is("10 five runs", five.poly(3), 1);
        Due.is("10 five runs: reads", five.count(0) - reads, 2 + 2 + 3 + 5);
        Due.is("10 five runs: the run", contents(five), "1 2 3 4 5");
        BlockSorter four = fallingRuns(40, 4);
        reads = four.count(0);
        // tapes: 4 2 1 and (thought) 3; 4 goes alone, 2 with 3; then 4 with 1; then 1 4, 2 3
        Due.is("10 four runs", four.poly(3), 1);
        Due.is("10 four runs: reads", four.count(0) - reads, 2 + 2 + 4);
        BlockSorter wide = fallingRuns(40, 5);
        reads = wide.count(0);
        Due.is("10 five runs of six tapes", wide.poly(6), 1);
        Due.is("10 five runs of six tapes: at once", wide.count(0) - reads, 5);
        BlockSorter many = fallingRuns(200, 90);
        Due.is("10 many", many.poly(4), 1);
        Due.is("10 many: first and last", many.told(0, 0, 0) + " " + many.told(0, 89, 0), "1 90");
        Due.is("10 many: free", many.count(4), 110);
    }

    private static void polyInTrouble() {
        BlockSorter five = fallingRuns(40, 5);
        five.crash(2);
        Due.is("10 power fails in the second merging", five.poly(3), DOWN);
        five.up();
        // tapes then: 3 2, 1, and 4 5
        Due.is("10 in the order of tapes", contents(five), "3 | 2 | 1 | 4 5");
        BlockSorter at = fallingRuns(40, 5);
        at.crash(0);
        at.poly(3);
        at.up();
        Due.is("10 as they were laid", contents(at), "5 | 3 | 2 | 4 | 1");
        BlockSorter four = fallingRuns(40, 4);
        four.crash(2);
        four.poly(3);
        four.up();
        // a level below: tape 1 has 4 and 2 3, tape 2 has 1
        Due.is("10 a level below", contents(four), "4 | 2 3 | 1");
        BlockSorter full = fallingRuns(8, 4);
        full.feed(9, 0, 0, 0);
        full.feed(9, 0, 0, 0);
        full.feed(9, 0, 0, 0);
        Due.full("10 full", () -> full.poly(3));
        Due.is("10 full: not down", full.count(11), 0);
        Due.is("10 full: in the order of tapes", contents(full), "2 | 1 | 3 | 4");
    }

    // ---- promise 11

    private static void plan() {
        BlockSorter x = five();
        Due.is("11 no run", x.plan(2), 0);
        x.form(0);
        String before = moves(x);
        Due.is("11 fan 2", x.plan(2), 2 + 3);
        Due.is("11 fan 3", x.plan(3), 3);
        Due.is("11 fan 8", x.plan(8), 3);
        Due.is("11 moves nothing", moves(x), before);
        Due.argument("11 fan 1", () -> x.plan(1));
        Due.argument("11 fan 9", () -> x.plan(9));
        x.crash(0);
        x.pass(2);
        Due.is("11 while down", x.plan(2), 5);
        x.up();
        x.pass(3);
        Due.is("11 one run", x.plan(2), 0);
        BlockSorter eight = fallingRuns(40, 8);
        eight.mode(1);
        Due.is("11 three passes", eight.plan(2), 24);
        Due.is("11 fan 7: one is alone first", eight.plan(7), 7 + 8);
        BlockSorter shorts = fourRuns(20);
        // 3 + 1 and 2 + 1 records: 2 + 1 + 1 + 1 blocks, then 2 + 2
        Due.is("11 short last blocks", shorts.plan(2), 9);
    }

    // ---- promises 12 to 15

    private static void looks() {
        BlockSorter x = fourRuns(20);
        Due.is("12 runs", x.runs(), 4);
        feedAll(x, 1, 1, 1);
        Due.is("13 records", x.records(0) + " " + x.records(1) + " " + x.records(2) + " "
                + x.records(3), "3 1 2 1");
        Due.is("13 the input with the desk", x.records(NONE), 3);
        Due.index("13 no run 4", () -> x.records(4));
        Due.index("13 no run -2", () -> x.records(-2));
        Due.is("14 block 0", x.block(0, 0), 4);
        Due.is("14 block 1", x.block(0, 1), 5);
        Due.is("14 of the input", x.block(NONE, 0), 0);
        Due.index("14 no block 2", () -> x.block(0, 2));
        Due.index("14 no block -1", () -> x.block(0, -1));
        Due.index("14 no such block at all", () -> x.block(0, Integer.MAX_VALUE));
        Due.index("14 the desk is no block", () -> x.block(NONE, 1));
        Due.index("14 input -1", () -> x.block(NONE, -1));
        Due.index("14 no run", () -> x.block(4, 0));
        Due.index("14 no run -2", () -> x.block(-2, 0));
        int reads = x.count(0);
        int way = x.count(2);
        Due.is("15 arm", x.count(3), 0);
        Due.is("15 told", x.told(0, 1, 0), 8);
        Due.is("15 is read", x.count(0) - reads, 1);
        Due.is("15 way", x.count(2) - way, 4);
        Due.is("15 the same block", x.told(0, 0, 0), 7);
        Due.is("15 is not read again", x.count(0) - reads, 1);
        Due.is("15 the next block", x.told(0, 2, 0), 9);
        Due.is("15 is read too", x.count(0) - reads, 2);
        Due.is("15 number", x.told(0, 2, 1), 2);
        Due.index("15 no record 3", () -> x.told(0, 3, 0));
        Due.index("15 no record -1", () -> x.told(0, -1, 0));
        Due.index("15 no column 2", () -> x.told(0, 0, 2));
        Due.index("15 no column -1", () -> x.told(0, 0, -1));
        Due.index("15 no run 4", () -> x.told(4, 0, 0));
        Due.index("15 the input is no run", () -> x.told(NONE, 0, 0));
        Due.is("15 what throws reads nothing", x.count(0) - reads, 2);
        BlockSorter y = fallingRuns(9, 2);
        reads = y.count(0);
        y.told(1, 0, 0);
        Due.is("15 what was written last is not read", y.count(0) - reads, 0);
    }

    // ---- promise 16

    private static void rank() {
        BlockSorter x = new BlockSorter(20, 5, 9);
        feedAll(x, 1, 3, 3, 5, 7);
        x.form(0);
        Due.is("16 below", x.rank(0, Long.MIN_VALUE), 0);
        Due.is("16 above", x.rank(0, Long.MAX_VALUE), 5);
        Due.is("16 equal", x.rank(0, 3), 1);
        Due.is("16 between", x.rank(0, 4), 3);
        Due.is("16 blocks", blocks(x, 0), "3 4 5");
        x.told(0, 4, 0);
        int reads = x.count(0);
        int way = x.count(2);
        // of 5: record 2 (block 4), then 4 (block 5), then 3 (block 4)
        Due.is("16 by halves", x.rank(0, 6), 4);
        Due.is("16 reads", x.count(0) - reads, 3);
        Due.is("16 way", x.count(2) - way, 3);
        reads = x.count(0);
        // record 2 is on the block at hand; then 1 and 0 on block 3
        Due.is("16 by halves below", x.rank(0, 0), 0);
        Due.is("16 reads below", x.count(0) - reads, 1);
        Due.index("16 no run", () -> x.rank(1, 0));
        Due.index("16 the input is no run", () -> x.rank(NONE, 0));
        BlockSorter down = new BlockSorter(20, 64, 9);
        down.width(2);
        down.key(1, true);
        down.key(0, false);
        down.feed(1, 9, 0, 0);
        down.feed(2, 7, 0, 0);
        down.feed(3, 5, 0, 0);
        down.form(0);
        Due.is("16 down", down.rank(0, 6), 2);
        Due.is("16 down, equal", down.rank(0, 7), 1);
        Due.is("16 down, least", down.rank(0, Long.MIN_VALUE), 3);
    }

    // ---- promise 17

    private static void drop() {
        BlockSorter x = fourRuns(20);
        int free = x.count(4);
        String before = moves(x);
        Due.is("17 drop", x.drop(0), 3);
        Due.is("17 its blocks are free", x.count(4), free + 2);
        Due.is("17 nothing moves", moves(x), before);
        Due.is("17 the others", contents(x), "6 | 4 5 | 3");
        Due.index("17 no run 3", () -> x.drop(3));
        Due.index("17 the input is no run", () -> x.drop(NONE));
        Due.is("17 the last one", x.drop(2), 2);
        Due.is("17 one more", x.drop(0), 1);
        Due.is("17 all", x.drop(0), 0);
        Due.is("17 all free", x.count(4), 20);
        Due.index("17 none is there", () -> x.drop(0));
    }

    // ---- promise 18

    private static void count() {
        BlockSorter x = new BlockSorter(10, 7, 2);
        x.width(2);
        x.key(1, false);
        x.mode(1);
        x.feed(1, 1, 0, 0);
        x.feed(2, 2, 0, 0);
        x.feed(3, 3, 0, 0);
        x.feed(4, 4, 0, 0);
        x.feed(5, 5, 0, 0);
        long[] want = {0, 2, 1, 1, 8, 5, 2, 1, 1, 1, 2, 0};
        for (int what = 0; what < want.length; what++) {
            Due.is("18 count " + what, x.count(what), want[what]);
        }
        Due.argument("18 count 12", () -> x.count(12));
        Due.argument("18 count -1", () -> x.count(-1));
        x.crash(0);
        x.form(0);
        Due.is("18 down", x.count(11), 1);
        Due.argument("18 down, count 12", () -> x.count(12));
    }

    // ---- promises 19 and 20

    private static void crashAndUp() {
        BlockSorter x = new BlockSorter(60, 5, 2);
        Due.argument("19 crash -2", () -> x.crash(-2));
        Due.argument("19 crash above", () -> x.crash(100001));
        x.crash(100000);
        x.crash(NONE);
        Due.state("20 not down", x::up);
        Due.is("19 not to fail", x.run(1, 9, 4), 4);
        x.crash(0);
        x.crash(1);
        Due.is("19 the last word counts", x.run(1, 9, 4), 3);
        Due.is("19 down", x.count(11), 1);
        Due.is("19 arm stays", moves(x), "0 3 2 2");
        Due.state("19 crash while down", () -> x.crash(1));
        Due.argument("19 wrong crash while down", () -> x.crash(-2));
        Due.is("20 up", x.up(), 0);
        Due.is("20 not down any more", x.count(11), 0);
        Due.state("20 up twice", x::up);
        Due.is("20 not to fail", x.run(1, 9, 30), 30);
        x.form(1);
        int runs = x.runs();
        x.crash(0);
        x.pass(2);
        Due.is("20 how many runs", x.up(), runs);
        BlockSorter y = new BlockSorter(20, 5, 2);
        y.crash(3);
        feedAll(y, 4, 3, 2, 1);
        // two of three are done by now
        Due.is("19 over several calls", y.form(0), DOWN);
        Due.is("19 over several calls: writes", y.count(1), 3);
        whileDown(y);
    }

    private static void whileDown(BlockSorter x) {
        Due.state("down: width", () -> x.width(1));
        Due.state("down: key", () -> x.key(0, true));
        Due.state("down: mode", () -> x.mode(0));
        Due.state("down: feed", () -> x.feed(1, 1, 1, 1));
        Due.state("down: run", () -> x.run(1, 1, 0));
        Due.state("down: form", () -> x.form(0));
        Due.state("down: pass", () -> x.pass(2));
        Due.state("down: best", () -> x.best(2));
        Due.state("down: poly", () -> x.poly(3));
        Due.is("down: plan", x.plan(2), 0);
        Due.is("down: runs", x.runs(), 0);
        Due.is("down: records", x.records(NONE), 4);
        Due.is("down: block", x.block(NONE, 1), 1);
        BlockSorter y = fourRuns(20);
        y.crash(0);
        y.pass(2);
        Due.state("down: told", () -> y.told(0, 0, 0));
        Due.state("down: rank", () -> y.rank(0, 0));
        Due.state("down: drop", () -> y.drop(0));
        Due.is("down: records of a run", y.records(0), 3);
        Due.is("down: block of a run", y.block(0, 1), 5);
    }

    // ---- the order, and which exception comes first

    private static void order() {
        BlockSorter x = new BlockSorter(20, 64, 9);
        x.width(3);
        x.key(2, true);
        x.key(0, false);
        x.feed(2, 0, 5, 0);
        x.feed(1, 9, 5, 0);
        x.feed(9, 9, 6, 0);
        x.feed(1, 3, 5, 0);
        x.feed(0, 0, Long.MIN_VALUE, 0);
        x.form(0);
        Due.is("keys", contents(x, 3), "2 1 3 0 4");
        BlockSorter y = new BlockSorter(20, 64, 9);
        y.width(3);
        y.feed(1, 2, 3, 0);
        y.feed(1, 2, -3, 0);
        y.feed(Long.MIN_VALUE, 7, 7, 0);
        y.feed(Long.MAX_VALUE, 0, 0, 0);
        y.feed(1, 1, 9, 0);
        y.form(0);
        Due.is("no keys", contents(y, 3), "2 4 1 0 3");
    }

    private static void whatComesFirst() {
        BlockSorter x = fourRuns(20);
        x.crash(0);
        x.pass(2);
        Due.argument("first: width", () -> x.width(0));
        Due.index("first: key", () -> x.key(1, true));
        Due.argument("first: mode", () -> x.mode(3));
        Due.argument("first: form", () -> x.form(3));
        Due.argument("first: best", () -> x.best(1));
        Due.argument("first: poly", () -> x.poly(7));
        Due.index("first: told", () -> x.told(4, 0, 0));
        Due.index("first: told, record", () -> x.told(0, 3, 0));
        Due.index("first: told, column", () -> x.told(0, 0, 2));
        Due.index("first: rank", () -> x.rank(4, 0));
        Due.index("first: drop", () -> x.drop(4));
    }
}
