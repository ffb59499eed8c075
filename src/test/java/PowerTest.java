/**
 * The boundaries that the document names under 'Terms' for POWER that FAILS, a DISK that is FULL,
 * and exceptions (part 4): one test for each sentence, in its order, with answers counted by hand.
 */
public final class PowerTest extends Bench {
    private PowerTest() {
    }

    public static void main(String[] args) {
        powerFailsAtTheNextWrite();
        nothingOfTheStepInFeed();
        nothingOfTheStepInForm();
        nothingOfTheStepInMerging();
        stepsBeforeStay();
        polyInTheOrderOfTapes();
        polyWithRunsOnTapeT();
        whatWasDoneCounts();
        fullDisk();
        fullBeforePower();
        whichExceptionIsFirst();
        whatThrowsChangesNothing();
        Due.end();
    }

    private static void powerFailsAtTheNextWrite() {
        for (int n = 0; n < 4; n++) {
            BlockSorter x = new BlockSorter(20, 5, 2);
            x.width(4);
            x.crash(n);
            for (int i = 0; i < n; i++) {
                Due.is("power lasts for " + n, x.feed(i, 0, 0, 0), i);
            }
            Due.is("so many were done, and it is not DOWN: " + n, x.count(11), 0);
            Due.is("the next one is not done: " + n, x.feed(9, 0, 0, 0), DOWN);
            Due.is("the next one is not done: WRITES " + n, x.count(1) + " " + x.count(11),
                    n + " 1");
        }
        BlockSorter exact = fallingRuns(20, 3);
        exact.crash(3);
        Due.is("power for just this PASS", exact.pass(3) + " " + exact.count(11), "1 0");
        Due.is("reading needs no power", exact.told(0, 0, 0), 1);
        Due.is("what writes nothing needs none", exact.pass(2) + " " + exact.form(0), "1 1");
        Due.is("and then it fails", exact.feed(1, 0, 0, 0), DOWN);
    }

    private static void nothingOfTheStepInFeed() {
        BlockSorter x = new BlockSorter(9, 7, 2);
        feedAll(x, 1, 2);
        x.crash(0);
        Due.is("feed() in work", x.feed(3, 0, 0, 0), DOWN);
        Due.is("THE DESK is kept", x.count(7) + " " + x.records(NONE) + " " + x.count(4), "2 2 9");
        x.up();
        feedAll(x, 4);
        x.form(0);
        Due.is("THE DESK is kept: contents", contents(x) + ", " + contents(x, 1),
                "1 2 | 4, 0 1 | 2");
    }

    /** What a step that fails must leave as before: all but what the arm did. */
    private static String kept(BlockSorter x) {
        return x.count(4) + " " + x.count(5) + " " + x.count(7) + " " + x.records(NONE) + ": "
                + blocks(x, NONE) + ", " + allBlocks(x);
    }

    private static void nothingOfTheStepInForm() {
        // THE DESK and three RUNS are written; as they are, five RUNS
        int[] writes = {4, 4, 6};
        for (int way = 0; way < 3; way++) {
            for (int n = 0; n < 8; n++) {
                BlockSorter x = new BlockSorter(40, 5, 2);
                feedAll(x, 30, 20);
                x.form(0);
                feedAll(x, 9, 8, 7, 6, 5);
                String before = kept(x);
                x.crash(n);
                int answer = x.form(way);
                String what = "FORMING by way " + way + ", power for " + n;
                if (n < writes[way]) {
                    Due.is(what, answer, DOWN);
                    Due.is(what + ": as before", kept(x), before);
                    Due.index(what + ": THE DESK has no block", () -> x.block(NONE, 2));
                    Due.is(what + ": up", x.up(), 1);
                    x.form(way);
                } else {
                    Due.is(what + ": done", answer, x.runs());
                }
                x.crash(NONE);
                x.best(8);
                Due.is(what + ": nothing is lost", contents(x), "5 6 7 8 9 20 30");
            }
        }
    }

    private static void nothingOfTheStepInMerging() {
        for (int n = 0; n < 5; n++) {
            BlockSorter x = fallingRuns(40, 5);
            feedAll(x, 9);
            String before = kept(x);
            x.crash(n);
            Due.is("a PASS, power for " + n, x.pass(8), DOWN);
            Due.is("a PASS: as before, power for " + n, kept(x), before);
            x.up();
            x.crash(n);
            Due.is("BEST, power for " + n, x.best(8), DOWN);
            Due.is("BEST: as before, power for " + n, kept(x), before);
            x.up();
            x.crash(n);
            Due.is("POLY, power for " + n, x.poly(6), DOWN);
            Due.is("POLY: as before, power for " + n, kept(x), before);
            x.up();
            Due.is("contents as before, power for " + n, contents(x), "5 | 4 | 3 | 2 | 1");
        }
    }

    private static void stepsBeforeStay() {
        BlockSorter fed = new BlockSorter(20, 5, 2);
        fed.crash(2);
        Due.is("one feed() is a STEP", fed.run(1, 9, 9), 5);
        Due.is("one feed() is a STEP: kept", fed.count(5) + " " + fed.count(7), "5 1");
        BlockSorter passed = fallingRuns(40, 6);
        passed.crash(4);
        passed.pass(2);
        passed.up();
        Due.is("one merging is a STEP of a PASS", contents(passed), "5 6 | 3 4 | 2 | 1");
        BlockSorter best = fallingRuns(40, 6);
        best.crash(4);
        best.best(2);
        best.up();
        Due.is("one merging is a STEP of BEST", contents(best), "2 | 1 | 5 6 | 3 4");
        BlockSorter formed = new BlockSorter(40, 5, 2);
        feedAll(formed, 6, 5, 4, 3, 2, 1);
        formed.crash(2);
        formed.form(0);
        Due.is("all of FORMING is a STEP", formed.up() + " " + formed.records(NONE), "0 6");
    }

    private static void polyInTheOrderOfTapes() {
        BlockSorter x = fallingRuns(40, 5);
        x.crash(2);
        x.poly(3);
        // tapes: 3 2, then 1, then 4 5 on tape T
        Due.is("in the order of tapes: how many", x.up(), 4);
        Due.is("in the order of tapes", contents(x), "3 | 2 | 1 | 4 5");
        Due.is("in the order of tapes: goes on", x.poly(3), 1);
        Due.is("in the order of tapes: all", contents(x), "1 2 3 4 5");
    }

    private static void polyWithRunsOnTapeT() {
        BlockSorter x = fallingRuns(40, 14);
        x.crash(2);
        // tapes: 14 9 5 2, 13 8 4 1, thought 12 7 3, thought 11 6, thought 10; 14 13 go to tape 6
        x.poly(6);
        x.up();
        Due.is("tape T stands last", contents(x),
                "9 | 5 | 2 | 8 | 4 | 1 | 12 | 7 | 3 | 11 | 6 | 10 | 13 14");
        Due.is("tape T is laid anew", x.poly(6), 1);
        Due.is("tape T is laid anew: all", contents(x), "1 2 3 4 5 6 7 8 9 10 11 12 13 14");
        Due.is("tape T is laid anew: free", x.count(4), 26);
    }

    private static void whatWasDoneCounts() {
        BlockSorter x = fallingRuns(20, 3);
        Due.is("before power fails", moves(x), "3 6 17 5");
        x.crash(1);
        x.pass(3);
        // read 3 (2), 4 (1), 5 (1); 1 written to 0 (5); 2 is not written
        Due.is("READS, WRITES, WAY of what was done", moves(x), "6 7 26 0");
        x.up();
        Due.is("the arm stays where it is", moves(x), "6 7 26 0");
        Due.is("the block is free again", x.count(4), 17);
    }

    private static void fullDisk() {
        BlockSorter fed = new BlockSorter(2, 5, 2);
        fed.width(4);
        feedAll(fed, 1, 2);
        String before = state(fed);
        Due.full("FULL: feed()", () -> fed.feed(3, 0, 0, 0));
        Due.is("FULL: it did not come", state(fed), before);
        Due.is("FULL: run()", fed.run(1, 9, 3), 0);
        Due.full("FULL: FORMING", () -> fed.form(0));
        Due.is("FULL: as before", kept(fed), "0 2 0 2: 0 1, ");
        Due.is("FULL: it is not DOWN", fed.count(11), 0);
        // 0 and 1 are read (1 and 1), and none is free
        Due.is("FULL: what was done counts", moves(fed), "2 2 3 1");
        BlockSorter desk = new BlockSorter(2, 7, 2);
        feedAll(desk, 1, 2, 3, 4, 5, 6, 7);
        Due.full("FULL: no block for THE DESK", () -> desk.form(1));
        Due.is("FULL: THE DESK is kept", kept(desk) + moves(desk), "0 7 1 7: 0 1, 0 2 1 1");
        BlockSorter done = new BlockSorter(4, 5, 2);
        done.width(4);
        feedAll(done, 2, 1);
        Due.is("the last block is taken, and it is not FULL", done.form(2), 2);
        feedAll(done, 9, 9);
        Due.is("no block is free, and none is wanted", done.count(4) + " " + done.runs(), "0 2");
        done.drop(0);
        done.drop(0);
        done.form(0);
        Due.is("room again", contents(done), "9 9");
        BlockSorter still = fallingRuns(4, 2);
        feedAll(still, 9, 9);
        Due.full("FULL: a PASS", () -> still.pass(2));
        Due.full("FULL: BEST", () -> still.best(2));
        Due.full("FULL: POLY", () -> still.poly(3));
        Due.is("FULL: contents as before", contents(still) + ", " + still.count(11), "2 | 1, 0");
        still.drop(1);
        Due.is("a RUN alone needs no block", still.pass(2) + " " + still.best(2) + " "
                + still.poly(3), "1 1 1");
    }

    private static void fullBeforePower() {
        BlockSorter x = fallingRuns(4, 2);
        feedAll(x, 9, 9);
        x.crash(0);
        Due.full("no block is there to be written: feed()", () -> x.feed(1, 0, 0, 0));
        Due.full("no block is there to be written: form()", () -> x.form(0));
        Due.full("no block is there to be written: pass()", () -> x.pass(2));
        Due.full("no block is there to be written: best()", () -> x.best(2));
        Due.full("no block is there to be written: poly()", () -> x.poly(3));
        Due.is("it is not DOWN", x.count(11), 0);
        Due.state("nothing to bring up", x::up);
        x.drop(0);
        Due.is("power is still to fail", x.feed(1, 0, 0, 0), DOWN);
    }

    private static void whichExceptionIsFirst() {
        BlockSorter x = fourRuns(20);
        Due.index("no column before a RUN that is there", () -> x.key(1, false));
        BlockSorter keyed = new BlockSorter(20, 5, 2);
        keyed.key(0, false);
        feedAll(keyed, 1);
        keyed.form(0);
        Due.argument("a KEY already before a RUN that is there", () -> keyed.key(0, true));
        Due.argument("a wrong WIDTH before records that are there", () -> keyed.width(5));
        feedAll(x, 9);
        x.crash(0);
        Due.is("power fails", x.form(0), DOWN);
        Due.argument("DOWN: width()", () -> x.width(0));
        Due.index("DOWN: key()", () -> x.key(-1, false));
        Due.argument("DOWN: mode()", () -> x.mode(-1));
        Due.argument("DOWN: run(), span", () -> x.run(1, 0, 1));
        Due.argument("DOWN: run(), n", () -> x.run(1, 1, 301));
        Due.argument("DOWN: form()", () -> x.form(-1));
        Due.argument("DOWN: pass()", () -> x.pass(1));
        Due.argument("DOWN: best()", () -> x.best(9));
        Due.argument("DOWN: poly()", () -> x.poly(2));
        Due.argument("DOWN: plan()", () -> x.plan(9));
        Due.argument("DOWN: count()", () -> x.count(-1));
        Due.argument("DOWN: crash()", () -> x.crash(100001));
        Due.index("DOWN: told(), RUN", () -> x.told(4, 0, 0));
        Due.index("DOWN: told(), record", () -> x.told(0, 3, 0));
        Due.index("DOWN: told(), column", () -> x.told(0, 0, 2));
        Due.index("DOWN: rank()", () -> x.rank(-1, 0));
        Due.index("DOWN: drop()", () -> x.drop(4));
        Due.index("DOWN: records()", () -> x.records(4));
        Due.index("DOWN: block()", () -> x.block(0, 2));
        BlockSorter full = new BlockSorter(2, 5, 2);
        full.width(4);
        feedAll(full, 1, 2);
        Due.argument("a wrong way before FULL", () -> full.form(3));
        BlockSorter both = fallingRuns(4, 2);
        feedAll(both, 9, 9);
        Due.argument("a wrong FAN before FULL", () -> both.pass(9));
        Due.argument("a wrong FAN before FULL: BEST", () -> both.best(1));
        Due.argument("wrong TAPES before FULL", () -> both.poly(7));
    }

    private static void whatThrowsChangesNothing() {
        BlockSorter x = fourRuns(20);
        feedAll(x, 9);
        x.mode(1);
        String index = "IndexOutOfBoundsException";
        String argument = "IllegalArgumentException";
        String state = "IllegalStateException";
        unchanged(x, "width(0)", argument, () -> x.width(0));
        unchanged(x, "width(2)", state, () -> x.width(2));
        unchanged(x, "key(1)", index, () -> x.key(1, true));
        unchanged(x, "key(0)", state, () -> x.key(0, true));
        unchanged(x, "mode(3)", argument, () -> x.mode(3));
        unchanged(x, "run() of no span", argument, () -> x.run(1, 0, 1));
        unchanged(x, "run() of too many", argument, () -> x.run(1, 1, 301));
        unchanged(x, "form(3)", argument, () -> x.form(3));
        unchanged(x, "told() of no record", index, () -> x.told(0, 3, 0));
        unchanged(x, "rank() of no RUN", index, () -> x.rank(4, 0));
        unchanged(x, "drop() of no RUN", index, () -> x.drop(4));
        unchanged(x, "up()", state, x::up);
        x.crash(0);
        unchanged(x, "crash(-2)", argument, () -> x.crash(-2));
        x.pass(2);
        unchanged(x, "DOWN: width()", state, () -> x.width(1));
        unchanged(x, "DOWN: key()", state, () -> x.key(0, true));
        unchanged(x, "DOWN: mode()", state, () -> x.mode(0));
        unchanged(x, "DOWN: feed()", state, () -> x.feed(1, 1, 1, 1));
        unchanged(x, "DOWN: run()", state, () -> x.run(1, 1, 0));
        unchanged(x, "DOWN: form()", state, () -> x.form(2));
        unchanged(x, "DOWN: pass()", state, () -> x.pass(2));
        unchanged(x, "DOWN: best()", state, () -> x.best(2));
        unchanged(x, "DOWN: poly()", state, () -> x.poly(3));
        unchanged(x, "DOWN: told()", state, () -> x.told(0, 0, 0));
        unchanged(x, "DOWN: rank()", state, () -> x.rank(0, 0));
        unchanged(x, "DOWN: drop()", state, () -> x.drop(0));
        unchanged(x, "DOWN: crash()", state, () -> x.crash(NONE));
        Due.is("behind all that: RUNS", x.up(), 4);
        Due.is("behind all that: contents", contents(x), "7 8 9 | 6 | 4 5 | 3");
    }
}
