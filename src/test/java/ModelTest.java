import java.util.Random;

/**
 * Runs of calls by chance (of fixed seeds), held against PlainSorter: every answer, and behind
 * every call all that can be asked without moving the arm.
 */
public final class ModelTest {
    private static final int RUNS = 1500;
    private static final int CALLS = 512;

    private final Random chance;
    private final BlockSorter sorter;
    private final PlainSorter plain;
    private final boolean gentle;

    private ModelTest(long seed) {
        // seeds that lie side by side would begin with the same choices
        chance = new Random(seed * 0x9E3779B97F4A7C15L);
        gentle = chance.nextBoolean();
        int blocks = new int[] {1, 4, 12, 40, 120, 201}[chance.nextInt(6)] + chance.nextInt(3);
        int size = chance.nextInt(3) == 0 ? chance.nextInt(70) : 4 + chance.nextInt(9);
        int memory = chance.nextInt(3) == 0 ? chance.nextInt(70) : 1 + chance.nextInt(8);
        sorter = new BlockSorter(blocks, size, memory);
        plain = new PlainSorter(blocks, size, memory);
    }

    public static void main(String[] args) {
        for (int seed = 1; seed <= RUNS; seed++) {
            new ModelTest(seed).play("seed " + seed);
        }
        Due.end();
    }

    private void play(String name) {
        setOrder();
        for (int i = 0; i < CALLS; i++) {
            String[] answers = oneCall();
            String what = name + " call " + i + " " + answers[0];
            Due.is(what, answers[1], answers[2]);
            boolean same = answers[1].equals(answers[2]);
            String mine = stateOf(sorter);
            String other = stateOf(plain);
            Due.is(what + ", behind it the state", mine, other);
            if (!same || !mine.equals(other)) {
                return;
            }
        }
        compareRecords(name);
    }

    /** Half of the runs have a width and keys from their start, as later few of them would. */
    private void setOrder() {
        if (chance.nextBoolean()) {
            return;
        }
        int width = 1 + chance.nextInt(4);
        sorter.width(width);
        plain.width(width);
        for (int column = width - 1; column >= 0; column--) {
            if (chance.nextInt(5) < 2) {
                boolean down = chance.nextBoolean();
                Due.is("key", sorter.key(column, down), plain.key(column, down));
            }
        }
    }

    /** A number that is good, or now and then one about an edge. */
    private int number(int least, int most) {
        int odd = chance.nextInt(40);
        if (odd == 0) {
            return least - 1;
        }
        if (odd == 1) {
            return most + 1;
        }
        if (odd == 2) {
            return chance.nextInt();
        }
        return least + chance.nextInt(Math.max(1, most - least + 1));
    }

    private long value() {
        int kind = chance.nextInt(12);
        return kind == 0 ? Long.MAX_VALUE - chance.nextInt(2)
                : kind == 1 ? Long.MIN_VALUE + chance.nextInt(2)
                : kind == 2 ? chance.nextLong() : chance.nextInt(5);
    }

    private String[] oneCall() {
        if (plain.down && chance.nextInt(3) == 0) {
            return both("up()", sorter::up, plain::up);
        }
        if (plain.runs() > 1 && plain.free.size() < 2 + chance.nextInt(4)) {
            int run = chance.nextInt(plain.runs());
            return both("drop", () -> sorter.drop(run), () -> plain.drop(run));
        }
        int kind = chance.nextInt(100);
        if (kind < 32 && !mayCome()) {
            kind = 32 + chance.nextInt(12);
        }
        if (kind < 12) {
            long a = value();
            long b = value();
            long c = value();
            long d = value();
            return both("feed", () -> sorter.feed(a, b, c, d), () -> plain.feed(a, b, c, d));
        }
        if (kind < 32) {
            long seed = chance.nextLong();
            int span = chance.nextInt(3) == 0 ? number(1, 1_000_000_000) : number(1, 9);
            int n = number(0, Math.max(1, Math.min(300, roomForInput())));
            return both("run", () -> sorter.run(seed, span, n), () -> plain.run(seed, span, n));
        }
        if (kind < 44) {
            int way = number(0, 2);
            return both("form " + way, () -> sorter.form(way), () -> plain.form(way));
        }
        return kind < 60 ? oneMerging(kind) : kind < 84 ? oneLook(kind) : oneSetting(kind);
    }

    /** An input that takes more than half of the disk can never leave it: that is kept rare. */
    private int roomForInput() {
        int blocks = plain.free.size() / 3 - plain.records(PlainSorter.NONE) / plain.per;
        return chance.nextInt(4) == 0 ? blocks * plain.per : blocks;
    }

    private boolean mayCome() {
        return roomForInput() > 0 || chance.nextInt(60) == 0;
    }

    private String[] oneMerging(int kind) {
        if (kind < 49) {
            int fan = number(2, 8);
            return both("pass " + fan, () -> sorter.pass(fan), () -> plain.pass(fan));
        }
        if (kind < 53) {
            int fan = number(2, 8);
            return both("best " + fan, () -> sorter.best(fan), () -> plain.best(fan));
        }
        int tapes = number(3, 6);
        return both("poly " + tapes, () -> sorter.poly(tapes), () -> plain.poly(tapes));
    }

    private String[] oneLook(int kind) {
        int run = plain.runs() > 0 ? number(0, plain.runs() - 1) : number(-1, 0);
        if (kind < 71) {
            int held = run >= 0 && run < plain.runs() ? plain.records(run) : 3;
            int i = number(0, held - 1);
            int c = number(0, plain.width);
            return both("told", () -> sorter.told(run, i, c), () -> plain.told(run, i, c));
        }
        if (kind < 79) {
            long v = value();
            return both("rank", () -> sorter.rank(run, v), () -> plain.rank(run, v));
        }
        if (kind < 82) {
            return both("drop", () -> sorter.drop(run), () -> plain.drop(run));
        }
        int k = number(-1, 3);
        return both("block", () -> sorter.block(run, k), () -> plain.block(run, k));
    }

    private String[] oneSetting(int kind) {
        if (kind < 87) {
            int n = number(1, 4);
            return both("width " + n, () -> {
                sorter.width(n);
                return 0;
            }, () -> {
                plain.width(n);
                return 0;
            });
        }
        if (kind < 91) {
            int column = number(0, plain.width - 1);
            boolean down = chance.nextBoolean();
            return both("key", () -> sorter.key(column, down), () -> plain.key(column, down));
        }
        if (kind < 95) {
            int m = number(0, 2);
            return both("mode " + m, () -> sorter.mode(m), () -> plain.mode(m));
        }
        if (kind < 98) {
            int n = gentle ? NONE_OR_BAD[chance.nextInt(NONE_OR_BAD.length)]
                    : number(-1, chance.nextBoolean() ? 10 : 100);
            return both("crash " + n, () -> {
                sorter.crash(n);
                return 0;
            }, () -> {
                plain.crash(n);
                return 0;
            });
        }
        if (kind < 99) {
            return dropAll();
        }
        return both("up()", sorter::up, plain::up);
    }

    private static final int[] NONE_OR_BAD = {-1, -1, -2, 100001, 100000};

    /** Without this the disk would be full most of the time, and the width never change. */
    private String[] dropAll() {
        return both("drop of all", () -> {
            while (sorter.runs() > 0) {
                sorter.drop(0);
            }
            return 0;
        }, () -> {
            while (plain.runs() > 0) {
                plain.drop(0);
            }
            return 0;
        });
    }

    private static String[] both(String what, Due.Call mine, Due.Call other) {
        return new String[] {what, Due.answerOf(mine), Due.answerOf(other)};
    }

    private void compareRecords(String name) {
        if (plain.down) {
            Due.is(name + " up() at the end", sorter.up(), plain.up());
        }
        for (int r = 0; r < plain.runs(); r++) {
            for (int i = 0; i < plain.records(r); i++) {
                for (int c = 0; c <= plain.width; c++) {
                    Due.is(name + " told " + r + " " + i + " " + c + " at the end",
                            sorter.told(r, i, c), plain.told(r, i, c));
                }
            }
        }
        Due.is(name + ", behind all the state", stateOf(sorter), stateOf(plain));
    }

    private static String stateOf(BlockSorter x) {
        StringBuilder text = new StringBuilder();
        for (int what = 0; what < 12; what++) {
            text.append(x.count(what)).append(' ');
        }
        for (int fan = 2; fan <= 8; fan++) {
            text.append("plan ").append(x.plan(fan)).append(' ');
        }
        int per = x.count(6);
        text.append("input ").append(x.records(-1)).append(':');
        for (int k = 0; k < x.records(-1) / per; k++) {
            text.append(x.block(-1, k)).append(',');
        }
        for (int r = 0; r < x.runs(); r++) {
            text.append(" run ").append(x.records(r)).append(':');
            for (int k = 0; k * per < x.records(r); k++) {
                text.append(x.block(r, k)).append(',');
            }
        }
        return text.toString();
    }

    private static String stateOf(PlainSorter x) {
        StringBuilder text = new StringBuilder();
        for (int what = 0; what < 12; what++) {
            text.append(x.count(what)).append(' ');
        }
        for (int fan = 2; fan <= 8; fan++) {
            text.append("plan ").append(x.plan(fan)).append(' ');
        }
        text.append("input ").append(x.records(-1)).append(':');
        for (int b : x.input) {
            text.append(b).append(',');
        }
        for (PlainSorter.Run r : x.runs) {
            text.append(" run ").append(r.held).append(':');
            for (int b : r.blocks) {
                text.append(b).append(',');
            }
        }
        return text.toString();
    }
}
