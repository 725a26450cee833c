import java.util.ArrayList;
import java.util.List;
import java.util.Random;
import java.util.TreeSet;

// Long mixed runs against the document's own words: a list of all writes, of which some no longer
// count. The seeds are fixed, so every run of this test makes the same calls.
public final class ModelTest {
    private static final int RUNS = 3000;
    private static final int CALLS = 512;

    private static final class Write {
        final int t;
        final int cell;
        final int value;
        boolean counts = true;
        boolean ofRunning = true;
        boolean sinceMark = true;

        Write(int t, int cell, int value) {
            this.t = t;
            this.cell = cell;
            this.value = value;
        }
    }

    private static final class Model {
        final List<Write> all = new ArrayList<>();
        final TreeSet<Integer> running = new TreeSet<>();

        List<Write> of(int t) {
            return all.stream().filter(w -> w.ofRunning && w.t == t).toList();
        }

        TreeSet<Integer> cellsOf(int t) {
            TreeSet<Integer> cells = new TreeSet<>();
            of(t).forEach(w -> cells.add(w.cell));
            return cells;
        }

        int idleOrBad(int t) {
            return t < 0 || t > 2 ? -1 : running.contains(t) ? 0 : -2;
        }

        int begin(int t) {
            if (t < 0 || t > 2) return -1;
            return running.add(t) ? t : -3;
        }

        int write(int t, int cell, int value) {
            if (t < 0 || t > 2 || cell < 0 || cell > 15) return -1;
            if (!running.contains(t)) return -2;
            for (int other : running) {
                if (other != t && cellsOf(other).contains(cell)) return -3;
            }
            if (of(t).size() == 20) return -4;
            all.add(new Write(t, cell, value));
            return cellsOf(t).size();
        }

        int read(int cell) {
            int value = 0;
            for (Write w : all) {
                if (w.counts && w.cell == cell) value = w.value;
            }
            return value;
        }

        int end(int t, boolean keep) {
            if (idleOrBad(t) != 0) return idleOrBad(t);
            int held = cellsOf(t).size();
            for (Write w : of(t)) {
                w.counts &= keep;
                w.ofRunning = false;
            }
            running.remove(t);
            return held;
        }

        int mark(int t) {
            if (idleOrBad(t) != 0) return idleOrBad(t);
            of(t).forEach(w -> w.sinceMark = false);
            return t;
        }

        int back(int t) {
            if (idleOrBad(t) != 0) return idleOrBad(t);
            List<Write> taken = of(t).stream().filter(w -> w.sinceMark && w.counts).toList();
            taken.forEach(w -> w.counts = false);
            return taken.size();
        }

        int crash() {
            int count = running.size();
            for (int t = 0; t < 3; t++) end(t, false);
            return count;
        }

        int holds(int t) {
            if (t < 0 || t > 2) return -1;
            int set = 0;
            for (int cell : cellsOf(t)) set += 1 << cell;
            return set;
        }
    }

    private static int wrong = 0;

    private static void due(long seed, String call, int got, int want) {
        if (got != want) {
            wrong++;
            if (wrong <= 20) {
                System.out.println("seed " + seed + ": " + call + " answered " + got + ", due is " + want);
            }
        }
    }

    private static int any(Random r, int bound) {
        if (r.nextInt(30) != 0) return r.nextInt(bound);
        int[] odd = {-1, bound, Integer.MIN_VALUE, Integer.MAX_VALUE, r.nextInt()};
        return odd[r.nextInt(odd.length)];
    }

    private static int anyValue(Random r) {
        return r.nextInt(4) == 0 ? r.nextInt() : r.nextInt(10);
    }

    private static void call(long seed, Random r, int kind, int cells, AriesEngine x, Model m) {
        int t = any(r, 3);
        int cell = any(r, cells);
        int v = anyValue(r);
        switch (kind) {
            case 0 -> due(seed, "begin(" + t + ")", x.begin(t), m.begin(t));
            case 1 -> due(seed, "write(" + t + ", " + cell + ", " + v + ")", x.write(t, cell, v), m.write(t, cell, v));
            case 2 -> due(seed, "add(" + t + ", " + cell + ", " + v + ")", x.add(t, cell, v), m.write(t, cell, m.read(cell) + v));
            case 3 -> due(seed, "read(" + cell + ")", x.read(cell), m.read(cell));
            case 4 -> due(seed, "commit(" + t + ")", x.commit(t), m.end(t, true));
            case 5 -> due(seed, "abort(" + t + ")", x.abort(t), m.end(t, false));
            case 6 -> due(seed, "mark(" + t + ")", x.mark(t), m.mark(t));
            case 7 -> due(seed, "back(" + t + ")", x.back(t), m.back(t));
            case 8 -> due(seed, "crash()", x.crash(), m.crash());
            case 9 -> due(seed, "crashTwice(" + v + ")", x.crashTwice(v), m.crash());
            case 10 -> due(seed, "checkpoint()", x.checkpoint(), m.running.size());
            default -> due(seed, "holds(" + t + ")", x.holds(t), m.holds(t));
        }
    }

    private static int drawKind(Random r, int[] weights) {
        int total = 0;
        for (int w : weights) total += w;
        int at = r.nextInt(total);
        int kind = 0;
        while (at >= weights[kind]) at -= weights[kind++];
        return kind;
    }

    private static void run(long seed) {
        Random r = new Random(seed);
        // begin, write, add, read, commit, abort, mark, back, crash, crashTwice, checkpoint, holds
        int[] weights = seed % 2 == 0
            ? new int[] {8, 20, 20, 15, 3, 3, 5, 6, 1, 1, 2, 6}
            : new int[] {12, 60, 60, 20, 1, 1, 3, 4, 1, 1, 2, 6};
        int cells = r.nextInt(3) == 0 ? 3 : 16;
        AriesEngine x = new AriesEngine(any(r, 5));
        Model m = new Model();
        for (int i = 0; i < CALLS - 19; i++) {
            call(seed, r, drawKind(r, weights), cells, x, m);
        }
        for (int cell = 0; cell < 16; cell++) {
            due(seed, "read(" + cell + ") at the end", x.read(cell), m.read(cell));
        }
        for (int t = 0; t < 3; t++) {
            due(seed, "holds(" + t + ") at the end", x.holds(t), m.holds(t));
        }
    }

    // What is answered after the 512th call is free, but no call may throw.
    private static void runTooLong() {
        Random r = new Random(1);
        AriesEngine x = new AriesEngine(0);
        for (int i = 0; i < 200000; i++) {
            int t = any(r, 3);
            int cell = any(r, 16);
            switch (r.nextInt(40)) {
                case 0 -> x.commit(t);
                case 1 -> x.abort(t);
                case 2 -> x.mark(t);
                case 3 -> x.back(t);
                case 4 -> x.crashTwice(cell);
                case 5, 6, 7 -> x.begin(t);
                case 8 -> x.holds(t);
                case 9 -> x.read(cell);
                case 10 -> x.checkpoint();
                case 11 -> x.crash();
                case 12, 13, 14, 15, 16 -> x.write(t, cell, i);
                default -> x.add(t, cell, i);
            }
        }
    }

    public static void main(String[] args) {
        for (long seed = 0; seed < RUNS; seed++) {
            run(seed);
        }
        runTooLong();
        System.out.println(wrong == 0 ? "all answers are as due" : wrong + " answers are not as due");
        if (wrong != 0) {
            System.exit(1);
        }
    }
}
