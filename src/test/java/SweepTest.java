/**
 * Every memory, fan and number of tapes, numbers of runs from none on, and many points where power
 * fails or the disk is full, held against PlainSorter.
 */
public final class SweepTest {
    private static final int NONE = BlockSorter.NONE;

    private SweepTest() {
    }

    public static void main(String[] args) {
        everyMemory();
        everyNumberOfRuns();
        powerFailsInForming();
        powerFailsInMerging();
        fullInForming();
        fullInMerging();
        Due.end();
    }

    private static void everyMemory() {
        for (int memory = 2; memory <= 64; memory++) {
            for (int way = 0; way < 3; way++) {
                Twins t = new Twins(200, 9, memory);
                t.width(2);
                t.key(0, way == 1);
                t.mode(memory % 3);
                t.run(memory * 7 + way, memory % 2 == 0 ? 1000 : 9, 250);
                t.form(way);
                t.compareRecords("MEMORY " + memory + ", way " + way);
            }
        }
    }

    /** The ways to merge, counted from 0 on: PASSES, BESTS, POLYS. */
    private static final int MERGINGS = 7 + 7 + 4;

    private static boolean merge(Twins t, int kind) {
        return kind < 7 ? t.pass(2 + kind) : kind < 14 ? t.best(kind - 5) : t.poly(kind - 11);
    }

    private static String nameOf(int kind) {
        return kind < 7 ? "pass " + (2 + kind) : kind < 14 ? "best " + (kind - 5)
                : "poly " + (kind - 11);
    }

    /** RUNS of several lengths, falling behind one another, with some that are ALIKE. */
    private static Twins withRuns(int blocks, int size, int n) {
        Twins t = new Twins(blocks, size, 3);
        t.width(2);
        t.key(0, false);
        for (int r = 0; r < n; r++) {
            for (int i = 0; i <= r * 7 % 4; i++) {
                t.feed((n - r) * 2 + i, r + i, 0, 0);
            }
        }
        t.form(2);
        return t;
    }

    private static void everyNumberOfRuns() {
        for (int n = 0; n <= 45; n++) {
            for (int kind = 0; kind < MERGINGS; kind++) {
                Twins t = withRuns(200, n % 2 == 0 ? 9 : 7, n);
                t.mode(n % 3);
                merge(t, kind);
                t.compareRecords(n + " RUNS, " + nameOf(kind));
            }
        }
    }

    private static void powerFailsInForming() {
        for (int way = 0; way < 3; way++) {
            for (int mode = 0; mode < 3; mode++) {
                for (int n = 0; n < 25; n++) {
                    Twins t = withRuns(60, 7, 2);
                    t.mode(mode);
                    t.run(n, 9, 21);
                    t.crash(n);
                    t.form(way);
                    t.compareRecords("way " + way + ", MODE " + mode + ", power for " + n);
                    t.form(2 - way);
                    t.compareRecords("way " + (2 - way) + " then");
                }
            }
        }
    }

    private static void powerFailsInMerging() {
        for (int runs = 2; runs <= 17; runs += 3) {
            for (int kind = 0; kind < MERGINGS; kind++) {
                for (int n = 0; n < 60; n++) {
                    Twins t = withRuns(100, 7, runs);
                    t.mode(n % 3);
                    t.crash(n);
                    merge(t, kind);
                    boolean failed = t.plain.down;
                    String what = runs + " RUNS, " + nameOf(kind) + ", power for " + n;
                    t.compareRecords(what);
                    merge(t, (kind + n) % MERGINGS);
                    t.compareRecords(what + ", then " + nameOf((kind + n) % MERGINGS));
                    if (!failed) {
                        break;
                    }
                }
            }
        }
    }

    private static void fullInForming() {
        for (int blocks = 2; blocks <= 40; blocks++) {
            for (int way = 0; way < 3; way++) {
                for (int came : new int[] {1, 2, 3, blocks - 1, blocks, blocks + 1, 2 * blocks}) {
                    Twins t = new Twins(blocks, 5, 3);
                    t.mode(blocks % 3);
                    t.run(blocks, 9, came);
                    t.form(way);
                    t.feed(1, 0, 0, 0);
                    t.form(way);
                    t.compareRecords("blocks " + blocks + ", way " + way + ", came " + came);
                }
            }
        }
    }

    private static void fullInMerging() {
        for (int runs = 2; runs <= 14; runs += 3) {
            for (int kind = 0; kind < MERGINGS; kind++) {
                for (int free = 0; free < 30; free++) {
                    Twins t = withRuns(100, 7, runs);
                    t.mode(free % 3);
                    int room = t.plain.free.size() - free;
                    t.run(free, 9, room * t.plain.per);
                    if (free % 4 == 0) {
                        t.crash(free / 2);
                    }
                    merge(t, kind);
                    t.compareRecords(runs + " RUNS, " + nameOf(kind) + ", free " + free);
                    t.crash(NONE);
                    t.drop(0);
                    merge(t, (kind + free) % MERGINGS);
                    t.compareRecords(runs + " RUNS, " + nameOf(kind) + " and more, free " + free);
                }
            }
        }
    }
}
