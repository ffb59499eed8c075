/** A BlockSorter and a PlainSorter that are asked the same, and must answer the same. */
final class Twins {
    final BlockSorter sorter;
    final PlainSorter plain;

    Twins(int blocks, int size, int memory) {
        sorter = new BlockSorter(blocks, size, memory);
        plain = new PlainSorter(blocks, size, memory);
    }

    /** Whether both answer the same, and all that can be asked behind it is the same. */
    boolean agree(String what, Due.Call mine, Due.Call other) {
        String answer = Due.answerOf(mine);
        String due = Due.answerOf(other);
        Due.is(what, answer, due);
        String state = stateOf(sorter);
        String stateDue = stateOf(plain);
        Due.is(what + ", behind it the state", state, stateDue);
        return answer.equals(due) && state.equals(stateDue);
    }

    boolean width(int n) {
        return agree("width " + n, () -> {
            sorter.width(n);
            return 0;
        }, () -> {
            plain.width(n);
            return 0;
        });
    }

    boolean key(int column, boolean down) {
        return agree("key " + column,
                () -> sorter.key(column, down), () -> plain.key(column, down));
    }

    boolean mode(int m) {
        return agree("mode " + m, () -> sorter.mode(m), () -> plain.mode(m));
    }

    boolean feed(long a, long b, long c, long d) {
        return agree("feed", () -> sorter.feed(a, b, c, d), () -> plain.feed(a, b, c, d));
    }

    boolean run(long seed, int span, int n) {
        return agree("run", () -> sorter.run(seed, span, n), () -> plain.run(seed, span, n));
    }

    boolean form(int way) {
        return agree("form " + way, () -> sorter.form(way), () -> plain.form(way));
    }

    boolean pass(int fan) {
        return agree("pass " + fan, () -> sorter.pass(fan), () -> plain.pass(fan));
    }

    boolean best(int fan) {
        return agree("best " + fan, () -> sorter.best(fan), () -> plain.best(fan));
    }

    boolean poly(int tapes) {
        return agree("poly " + tapes, () -> sorter.poly(tapes), () -> plain.poly(tapes));
    }

    boolean block(int run, int k) {
        return agree("block", () -> sorter.block(run, k), () -> plain.block(run, k));
    }

    boolean told(int run, int i, int c) {
        return agree("told", () -> sorter.told(run, i, c), () -> plain.told(run, i, c));
    }

    boolean rank(int run, long value) {
        return agree("rank", () -> sorter.rank(run, value), () -> plain.rank(run, value));
    }

    boolean drop(int run) {
        return agree("drop " + run, () -> sorter.drop(run), () -> plain.drop(run));
    }

    boolean crash(int n) {
        return agree("crash " + n, () -> {
            sorter.crash(n);
            return 0;
        }, () -> {
            plain.crash(n);
            return 0;
        });
    }

    boolean up() {
        return agree("up", sorter::up, plain::up);
    }

    /** Every record of every run; power comes back for it. */
    void compareRecords(String what) {
        if (plain.down) {
            up();
        }
        for (int r = 0; r < plain.runs(); r++) {
            for (int i = 0; i < plain.records(r); i++) {
                for (int c = 0; c <= plain.width; c++) {
                    Due.is(what + ": told " + r + " " + i + " " + c,
                            sorter.told(r, i, c), plain.told(r, i, c));
                }
            }
        }
        Due.is(what + ": behind all the state", stateOf(sorter), stateOf(plain));
    }

    private static String stateOf(BlockSorter x) {
        StringBuilder text = new StringBuilder();
        for (int what = 0; what < 12; what++) {
            text.append(x.count(what)).append(' ');
        }
        for (int fan = 2; fan <= 8; fan++) {
            text.append("plan ").append(x.plan(fan)).append(' ');
        }
        int per = x.count(6);
        text.append("input ").append(x.records(-1)).append(':');
        for (int k = 0; k < x.records(-1) / per; k++) {
            text.append(x.block(-1, k)).append(',');
        }
        for (int r = 0; r < x.runs(); r++) {
            text.append(" run ").append(x.records(r)).append(':');
            for (int k = 0; k * per < x.records(r); k++) {
                text.append(x.block(r, k)).append(',');
            }
        }
        return text.toString();
    }

    private static String stateOf(PlainSorter x) {
        StringBuilder text = new StringBuilder();
        for (int what = 0; what < 12; what++) {
            text.append(x.count(what)).append(' ');
        }
        for (int fan = 2; fan <= 8; fan++) {
            text.append("plan ").append(x.plan(fan)).append(' ');
        }
        text.append("input ").append(x.records(-1)).append(':');
        for (int b : x.input) {
            text.append(b).append(',');
        }
        for (PlainSorter.Run r : x.runs) {
            text.append(" run ").append(r.held).append(':');
            for (int b : r.blocks) {
                text.append(b).append(',');
            }
        }
        return text.toString();
    }
}
