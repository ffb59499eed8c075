import java.util.Random;

/**
 * Runs of calls by chance (of fixed seeds), held against PlainSorter: every answer, and behind
 * every call all that can be asked without moving the arm.
 */
public final class ModelTest {
    private static final int RUNS = 1500;
    private static final int CALLS = 512;
    private static final int[] NONE_OR_BAD = {-1, -1, -2, 100001, 100000};

    private final Random chance;
    private final Twins twins;
    private final PlainSorter plain;
    private final boolean gentle;

    private ModelTest(long seed) {
        // seeds that lie side by side would begin with the same choices
        chance = new Random(seed * 0x9E3779B97F4A7C15L);
        gentle = chance.nextBoolean();
        int blocks = new int[] {1, 4, 12, 40, 120, 201}[chance.nextInt(6)] + chance.nextInt(3);
        int size = chance.nextInt(3) == 0 ? chance.nextInt(70) : 4 + chance.nextInt(9);
        int memory = chance.nextInt(3) == 0 ? chance.nextInt(70) : 1 + chance.nextInt(8);
        twins = new Twins(blocks, size, memory);
        plain = twins.plain;
    }

    public static void main(String[] args) {
        for (int seed = 1; seed <= RUNS; seed++) {
            new ModelTest(seed).play("seed " + seed);
        }
        Due.end();
    }

    private void play(String name) {
        setOrder();
        for (int i = 0; i < CALLS; i++) {
            if (!oneCall()) {
                System.out.println("that was call " + i + " of " + name);
                return;
            }
        }
        twins.compareRecords(name);
    }

    /** Half of the runs have a width and keys from their start, as later few of them would. */
    private void setOrder() {
        if (chance.nextBoolean()) {
            return;
        }
        int width = 1 + chance.nextInt(4);
        twins.width(width);
        for (int column = width - 1; column >= 0; column--) {
            if (chance.nextInt(5) < 2) {
                twins.key(column, chance.nextBoolean());
            }
        }
    }

    /** A number that is good, or now and then one about an edge. */
    private int number(int least, int most) {
        int odd = chance.nextInt(40);
        if (odd == 0) {
            return least - 1;
        }
        if (odd == 1) {
            return most + 1;
        }
        if (odd == 2) {
            return chance.nextInt();
        }
        return least + chance.nextInt(Math.max(1, most - least + 1));
    }

    private long value() {
        int kind = chance.nextInt(12);
        return kind == 0 ? Long.MAX_VALUE - chance.nextInt(2)
                : kind == 1 ? Long.MIN_VALUE + chance.nextInt(2)
                : kind == 2 ? chance.nextLong() : chance.nextInt(5);
    }

    private boolean oneCall() {
        if (plain.down && chance.nextInt(3) == 0) {
            return twins.up();
        }
        if (plain.runs() > 1 && plain.free.size() < 2 + chance.nextInt(4)) {
            return twins.drop(chance.nextInt(plain.runs()));
        }
        int kind = chance.nextInt(100);
        if (kind < 32 && !mayCome()) {
            kind = 32 + chance.nextInt(12);
        }
        if (kind < 12) {
            return twins.feed(value(), value(), value(), value());
        }
        if (kind < 32) {
            long seed = chance.nextLong();
            int span = chance.nextInt(3) == 0 ? number(1, 1_000_000_000) : number(1, 9);
            return twins.run(seed, span, number(0, Math.max(1, Math.min(300, roomForInput()))));
        }
        if (kind < 44) {
            return twins.form(number(0, 2));
        }
        return kind < 60 ? oneMerging(kind) : kind < 84 ? oneLook(kind) : oneSetting(kind);
    }

    /** An input that takes more than half of the disk can never leave it: that is kept rare. */
    private int roomForInput() {
        int blocks = plain.free.size() / 3 - plain.records(PlainSorter.NONE) / plain.per;
        return chance.nextInt(4) == 0 ? blocks * plain.per : blocks;
    }

    private boolean mayCome() {
        return roomForInput() > 0 || chance.nextInt(60) == 0;
    }

    private boolean oneMerging(int kind) {
        if (kind < 49) {
            return twins.pass(number(2, 8));
        }
        return kind < 53 ? twins.best(number(2, 8)) : twins.poly(number(3, 6));
    }

    private boolean oneLook(int kind) {
        int run = plain.runs() > 0 ? number(0, plain.runs() - 1) : number(-1, 0);
        if (kind < 71) {
            int held = run >= 0 && run < plain.runs() ? plain.records(run) : 3;
            return twins.told(run, number(0, held - 1), number(0, plain.width));
        }
        if (kind < 79) {
            return twins.rank(run, value());
        }
        return kind < 82 ? twins.drop(run) : twins.block(run, number(-1, 3));
    }

    private boolean oneSetting(int kind) {
        if (kind < 87) {
            return twins.width(number(1, 4));
        }
        if (kind < 91) {
            return twins.key(number(0, plain.width - 1), chance.nextBoolean());
        }
        if (kind < 95) {
            return twins.mode(number(0, 2));
        }
        if (kind < 98) {
            return twins.crash(gentle ? NONE_OR_BAD[chance.nextInt(NONE_OR_BAD.length)]
                    : number(-1, chance.nextBoolean() ? 10 : 100));
        }
        return kind < 99 ? dropAll() : twins.up();
    }

    /** Without this the disk would be full most of the time, and the width never change. */
    private boolean dropAll() {
        boolean same = true;
        while (same && !plain.down && plain.runs() > 0) {
            same = twins.drop(0);
        }
        return same;
    }
}
