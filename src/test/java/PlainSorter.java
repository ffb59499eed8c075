import java.util.ArrayList;
import java.util.Arrays;
import java.util.Comparator;
import java.util.HashMap;
import java.util.Iterator;
import java.util.List;
import java.util.Map;
import java.util.TreeSet;

/**
 * The document once more, in the plainest Java with the whole library: records are objects,
 * a step works on copies, and trouble is an exception. ModelTest holds BlockSorter against it.
 */
final class PlainSorter {
    static final int NONE = -1, DOWN = -2;

    static final class PowerFails extends Exception {
    }

    static final class DiskFull extends Exception {
    }

    static final class Rec {
        final long[] columns;
        final int number;

        Rec(long[] columns, int number) {
            this.columns = columns;
            this.number = number;
        }
    }

    static final class Run {
        final List<Integer> blocks = new ArrayList<>();
        int held = 0;
    }

    final int size;
    final int room;
    final Map<Integer, List<Rec>> disk = new HashMap<>();
    TreeSet<Integer> free = new TreeSet<>();
    int width = 1;
    int per;
    List<Integer> keys = new ArrayList<>();
    List<Boolean> downs = new ArrayList<>();
    int mode = 0;
    List<Integer> input = new ArrayList<>();
    List<Rec> desk = new ArrayList<>();
    List<Run> runs = new ArrayList<>();
    int came = 0;
    int reads = 0;
    int writes = 0;
    int way = 0;
    int arm = 0;
    Integer lastBlock = null;
    int fuse = NONE;
    boolean down = false;

    PlainSorter(int blocks, int size, int memory) {
        int n = blocks < 2 ? 2 : blocks > 200 ? 200 : blocks;
        for (int b = 0; b < n; b++) {
            free.add(b);
        }
        this.size = size < 5 ? 5 : size > 64 ? 64 : size;
        room = memory < 2 ? 2 : memory > 64 ? 64 : memory;
        per = this.size / 2;
    }

    // ---- the disk

    List<Rec> readBlock(int b) {
        reads++;
        way += Math.abs(b - arm);
        arm = b;
        lastBlock = b;
        return disk.get(b);
    }

    int writeBlock(List<Rec> page) throws PowerFails, DiskFull {
        if (free.isEmpty()) {
            throw new DiskFull();
        }
        int b = free.first();
        if (fuse == 0) {
            down = true;
            throw new PowerFails();
        }
        if (fuse > 0) {
            fuse--;
        }
        free.remove(b);
        writes++;
        way += Math.abs(b - arm);
        arm = b;
        lastBlock = b;
        disk.put(b, new ArrayList<>(page));
        return b;
    }

    // ---- the order

    int compareKeys(Rec x, Rec y) {
        if (keys.isEmpty()) {
            return Arrays.compare(x.columns, y.columns);
        }
        for (int k = 0; k < keys.size(); k++) {
            int c = Long.compare(x.columns[keys.get(k)], y.columns[keys.get(k)]);
            if (c != 0) {
                return downs.get(k) ? -c : c;
            }
        }
        return 0;
    }

    int compare(Rec x, Rec y) {
        int c = compareKeys(x, y);
        return c != 0 ? c : Integer.compare(x.number, y.number);
    }

    Comparator<Rec> byOrder() {
        return this::compare;
    }

    // ---- what goes out

    final class Out {
        final List<Run> made = new ArrayList<>();
        Run run = new Run();
        List<Rec> page = new ArrayList<>();
        Rec kept = null;

        void goOut(Rec r) throws PowerFails, DiskFull {
            if (mode == 0) {
                toPage(r);
                return;
            }
            if (kept != null && compareKeys(kept, r) == 0) {
                boolean lastIsKey = keys.contains(width - 1);
                if (mode == 2 && !keys.isEmpty() && !lastIsKey) {
                    long[] sum = kept.columns.clone();
                    sum[width - 1] += r.columns[width - 1];
                    kept = new Rec(sum, kept.number);
                }
                return;
            }
            if (kept != null) {
                toPage(kept);
            }
            kept = r;
        }

        private void toPage(Rec r) throws PowerFails, DiskFull {
            page.add(r);
            run.held++;
            if (page.size() == per) {
                flush();
            }
        }

        private void flush() throws PowerFails, DiskFull {
            run.blocks.add(writeBlock(page));
            page.clear();
        }

        void endRun() throws PowerFails, DiskFull {
            if (kept != null) {
                Rec r = kept;
                kept = null;
                toPage(r);
            }
            if (!page.isEmpty()) {
                flush();
            }
            if (run.held > 0) {
                made.add(run);
            }
            run = new Run();
        }
    }

    // ---- calls

    void needPower() {
        if (down) {
            throw new IllegalStateException();
        }
    }

    Run needRun(int run) {
        if (run < 0 || run >= runs.size()) {
            throw new IndexOutOfBoundsException();
        }
        return runs.get(run);
    }

    void width(int n) {
        if (n < 1 || n > 4) {
            throw new IllegalArgumentException();
        }
        needPower();
        if (!runs.isEmpty() || !input.isEmpty() || !desk.isEmpty()) {
            throw new IllegalStateException();
        }
        width = n;
        per = size / (n + 1);
        keys.clear();
        downs.clear();
    }

    int key(int column, boolean isDown) {
        if (column < 0 || column >= width) {
            throw new IndexOutOfBoundsException();
        }
        if (keys.contains(column)) {
            throw new IllegalArgumentException();
        }
        needPower();
        if (!runs.isEmpty()) {
            throw new IllegalStateException();
        }
        keys.add(column);
        downs.add(isDown);
        return keys.size();
    }

    int mode(int m) {
        if (m < 0 || m > 2) {
            throw new IllegalArgumentException();
        }
        needPower();
        int was = mode;
        mode = m;
        return was;
    }

    private void bring(long[] columns) throws PowerFails, DiskFull {
        List<Rec> full = new ArrayList<>(desk);
        full.add(new Rec(columns, came));
        if (full.size() == per) {
            input.add(writeBlock(full));
            full.clear();
        }
        desk = full;
        came++;
    }

    int feed(long a, long b, long c, long d) {
        needPower();
        try {
            bring(Arrays.copyOf(new long[] {a, b, c, d}, width));
        } catch (PowerFails e) {
            return DOWN;
        } catch (DiskFull e) {
            throw new UnsupportedOperationException();
        }
        return came - 1;
    }

    int run(long seed, int span, int n) {
        if (span < 1 || span > 1_000_000_000 || n < 0 || n > 300) {
            throw new IllegalArgumentException();
        }
        needPower();
        long x = seed;
        for (int i = 0; i < n; i++) {
            long[] columns = new long[width];
            for (int c = 0; c < width; c++) {
                x = x * 6364136223846793005L + 1442695040888963407L;
                columns[c] = (x >>> 33) % span;
            }
            try {
                bring(columns);
            } catch (PowerFails | DiskFull e) {
                return i;
            }
        }
        return n;
    }

    int form(int wayOfForming) {
        if (wayOfForming < 0 || wayOfForming > 2) {
            throw new IllegalArgumentException();
        }
        needPower();
        TreeSet<Integer> freeBefore = new TreeSet<>(free);
        List<Integer> inputBefore = new ArrayList<>(input);
        Out out = new Out();
        try {
            if (!desk.isEmpty()) {
                input.add(writeBlock(desk));
            }
            Iterator<Rec> records = new Iterator<>() {
                int nextBlock = 0;
                Iterator<Rec> inBlock = List.<Rec>of().iterator();

                @Override
                public boolean hasNext() {
                    return inBlock.hasNext() || nextBlock < input.size();
                }

                @Override
                public Rec next() {
                    if (!inBlock.hasNext()) {
                        inBlock = readBlock(input.get(nextBlock++)).iterator();
                    }
                    return inBlock.next();
                }
            };
            if (wayOfForming == 0) {
                load(records, out);
            } else if (wayOfForming == 1) {
                choose(records, out);
            } else {
                asTheyAre(records, out);
            }
        } catch (PowerFails e) {
            free = freeBefore;
            input = inputBefore;
            return DOWN;
        } catch (DiskFull e) {
            free = freeBefore;
            input = inputBefore;
            throw new UnsupportedOperationException();
        }
        free.addAll(input);
        input.clear();
        desk = new ArrayList<>();
        runs.addAll(out.made);
        return runs.size();
    }

    private void load(Iterator<Rec> records, Out out) throws PowerFails, DiskFull {
        while (records.hasNext()) {
            List<Rec> memory = new ArrayList<>();
            while (memory.size() < room && records.hasNext()) {
                memory.add(records.next());
            }
            memory.sort(byOrder());
            for (Rec r : memory) {
                out.goOut(r);
            }
            out.endRun();
        }
    }

    private void choose(Iterator<Rec> records, Out out) throws PowerFails, DiskFull {
        List<Rec> mine = new ArrayList<>();
        List<Rec> later = new ArrayList<>();
        while (mine.size() < room && records.hasNext()) {
            mine.add(records.next());
        }
        while (!mine.isEmpty()) {
            while (!mine.isEmpty()) {
                Rec first = mine.stream().min(byOrder()).get();
                mine.remove(first);
                out.goOut(first);
                if (records.hasNext()) {
                    Rec r = records.next();
                    (compare(r, first) < 0 ? later : mine).add(r);
                }
            }
            out.endRun();
            mine = later;
            later = new ArrayList<>();
        }
    }

    private void asTheyAre(Iterator<Rec> records, Out out) throws PowerFails, DiskFull {
        Rec last = null;
        while (records.hasNext()) {
            Rec r = records.next();
            if (last != null && compare(r, last) < 0) {
                out.endRun();
            }
            out.goOut(r);
            last = r;
        }
        out.endRun();
    }

    private final class Cursor {
        final Run run;
        int block = 0;
        int place = 0;
        List<Rec> atHand;

        Cursor(Run run) {
            this.run = run;
            atHand = readBlock(run.blocks.get(0));
        }

        boolean isEmpty() {
            return atHand == null;
        }

        Rec first() {
            return atHand.get(place);
        }

        void forward() {
            place++;
            if (place == atHand.size()) {
                place = 0;
                block++;
                atHand = block < run.blocks.size() ? readBlock(run.blocks.get(block)) : null;
            }
        }
    }

    private Run merge(List<Run> group) throws PowerFails, DiskFull {
        TreeSet<Integer> freeBefore = new TreeSet<>(free);
        Out out = new Out();
        List<Cursor> cursors = new ArrayList<>();
        for (Run r : group) {
            cursors.add(new Cursor(r));
        }
        try {
            while (true) {
                Cursor best = null;
                for (Cursor c : cursors) {
                    if (!c.isEmpty() && (best == null || compare(c.first(), best.first()) < 0)) {
                        best = c;
                    }
                }
                if (best == null) {
                    break;
                }
                out.goOut(best.first());
                best.forward();
            }
            out.endRun();
        } catch (PowerFails | DiskFull e) {
            free = freeBefore;
            throw e;
        }
        for (Run r : group) {
            free.addAll(r.blocks);
        }
        return out.made.get(0);
    }

    private void needFan(int fan) {
        if (fan < 2 || fan > 8) {
            throw new IllegalArgumentException();
        }
    }

    int pass(int fan) {
        needFan(fan);
        needPower();
        List<Run> old = runs;
        List<Run> now = new ArrayList<>();
        int from = 0;
        try {
            while (from < old.size()) {
                List<Run> group = old.subList(from, Math.min(old.size(), from + fan));
                now.add(group.size() == 1 ? group.get(0) : merge(group));
                from += group.size();
            }
        } catch (PowerFails | DiskFull e) {
            now.addAll(old.subList(from, old.size()));
        }
        runs = now;
        return afterMerging(from == old.size());
    }

    private int afterMerging(boolean done) {
        if (!done && !down) {
            throw new UnsupportedOperationException();
        }
        return done ? runs.size() : DOWN;
    }

    int best(int fan) {
        needFan(fan);
        needPower();
        int n = runs.size();
        int take = 2 + (n - 2) % (fan - 1);
        while (runs.size() > 1) {
            List<Run> sorted = new ArrayList<>(runs);
            sorted.sort(Comparator.comparingInt(r -> r.held));
            List<Run> fewest = sorted.subList(0, take);
            List<Run> group = new ArrayList<>();
            List<Run> rest = new ArrayList<>();
            for (Run r : runs) {
                (fewest.contains(r) ? group : rest).add(r);
            }
            try {
                rest.add(merge(group));
            } catch (PowerFails | DiskFull e) {
                return afterMerging(false);
            }
            runs = rest;
            take = fan;
        }
        return runs.size();
    }

    int poly(int tapeCount) {
        if (tapeCount < 3 || tapeCount > 6) {
            throw new IllegalArgumentException();
        }
        needPower();
        int p = tapeCount - 1;
        List<int[]> levels = new ArrayList<>();
        int[] a = new int[tapeCount + 1];
        int[] d = new int[tapeCount + 1];
        Arrays.fill(a, 1, p + 1, 1);
        Arrays.fill(d, 1, p + 1, 1);
        levels.add(a.clone());
        List<List<Run>> tapes = new ArrayList<>();
        for (int t = 0; t <= tapeCount; t++) {
            tapes.add(new ArrayList<>());
        }
        int j = 1;
        for (int i = 0; i < runs.size(); i++) {
            tapes.get(j).add(runs.get(i));
            d[j]--;
            if (i == runs.size() - 1) {
                break;
            }
            if (d[j] < d[j + 1]) {
                j++;
            } else {
                if (d[j] == 0) {
                    int[] old = a.clone();
                    for (int k = 1; k <= p; k++) {
                        d[k] = old[1] + old[k + 1] - old[k];
                        a[k] = old[1] + old[k + 1];
                    }
                    levels.add(a.clone());
                }
                j = 1;
            }
        }
        // a thought run stands as null on its tape
        for (int t = 1; t <= p; t++) {
            for (int k = 0; k < d[t]; k++) {
                tapes.get(t).add(0, null);
            }
        }
        boolean done = true;
        for (int level = levels.size() - 1; level >= 0 && done; level--) {
            done = mergeLevel(tapes, p, levels.get(level)[p]);
            if (done) {
                tapes.add(1, tapes.remove(tapeCount));
            }
        }
        runs = new ArrayList<>();
        for (List<Run> tape : tapes) {
            for (Run r : tape) {
                if (r != null) {
                    runs.add(r);
                }
            }
        }
        return afterMerging(done);
    }

    private boolean mergeLevel(List<List<Run>> tapes, int p, int steps) {
        for (int s = 0; s < steps; s++) {
            List<Run> group = new ArrayList<>();
            for (int t = 1; t <= p; t++) {
                if (tapes.get(t).get(0) != null) {
                    group.add(tapes.get(t).get(0));
                }
            }
            Run outcome;
            try {
                outcome = group.isEmpty() ? null : group.size() == 1 ? group.get(0) : merge(group);
            } catch (PowerFails | DiskFull e) {
                return false;
            }
            for (int t = 1; t <= p; t++) {
                tapes.get(t).remove(0);
            }
            tapes.get(p + 1).add(outcome);
        }
        return true;
    }

    int plan(int fan) {
        needFan(fan);
        List<Integer> lengths = new ArrayList<>();
        for (Run r : runs) {
            lengths.add(r.held);
        }
        int sum = 0;
        while (lengths.size() > 1) {
            List<Integer> now = new ArrayList<>();
            for (int from = 0; from < lengths.size(); from += fan) {
                List<Integer> group = lengths.subList(from, Math.min(lengths.size(), from + fan));
                int all = 0;
                for (int n : group) {
                    all += n;
                    if (group.size() > 1) {
                        sum += n / per + (n % per == 0 ? 0 : 1);
                    }
                }
                now.add(all);
            }
            lengths = now;
        }
        return sum;
    }

    int runs() {
        return runs.size();
    }

    int records(int run) {
        return run == NONE ? input.size() * per + desk.size() : needRun(run).held;
    }

    int block(int run, int k) {
        List<Integer> blocks = run == NONE ? input : needRun(run).blocks;
        if (k < 0 || k >= blocks.size()) {
            throw new IndexOutOfBoundsException();
        }
        return blocks.get(k);
    }

    private Rec look(Run run, int i) {
        int b = run.blocks.get(i / per);
        if (lastBlock == null || lastBlock != b) {
            readBlock(b);
        }
        return disk.get(b).get(i % per);
    }

    long told(int run, int i, int c) {
        Run r = needRun(run);
        if (i < 0 || i >= r.held || c < 0 || c > width) {
            throw new IndexOutOfBoundsException();
        }
        needPower();
        Rec found = look(r, i);
        return c == width ? found.number : found.columns[c];
    }

    int rank(int run, long value) {
        Run r = needRun(run);
        needPower();
        int low = 0;
        int high = r.held;
        while (low < high) {
            int middle = (low + high) / 2;
            long x = look(r, middle).columns[keys.isEmpty() ? 0 : keys.get(0)];
            if (!keys.isEmpty() && downs.get(0) ? x > value : x < value) {
                low = middle + 1;
            } else {
                high = middle;
            }
        }
        return low;
    }

    int drop(int run) {
        Run r = needRun(run);
        needPower();
        free.addAll(r.blocks);
        runs.remove(run);
        return runs.size();
    }

    int count(int what) {
        int[] all = {reads, writes, way, arm, free.size(), came, per, desk.size(), keys.size(),
            mode, width, down ? 1 : 0};
        if (what < 0 || what >= all.length) {
            throw new IllegalArgumentException();
        }
        return all[what];
    }

    void crash(int n) {
        if (n < -1 || n > 100000) {
            throw new IllegalArgumentException();
        }
        needPower();
        fuse = n;
    }

    int up() {
        if (!down) {
            throw new IllegalStateException();
        }
        down = false;
        fuse = NONE;
        return runs.size();
    }
}
