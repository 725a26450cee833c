// The promises one by one: ordinary calls, the edges that the document names, and wrong inputs.
public final class PromiseTest {
    private static final int BAD = -1;
    private static final int IDLE = -2;
    private static final int HELD = -3;
    private static final int FULL = -4;
    private static final int LOW = Integer.MIN_VALUE;
    private static final int HIGH = Integer.MAX_VALUE;
    private static final int[] NO_TRANSACTION = {-1, 3, 4, 32, LOW, HIGH};
    private static final int[] NO_CELL = {-1, 16, 17, 32, LOW, HIGH};

    private static int wrong = 0;

    private static void due(int promise, String what, int got, int want) {
        if (got != want) {
            wrong++;
            System.out.println("promise " + promise + ": " + what + " answered " + got + ", due is " + want);
        }
    }

    private static AriesEngine withRunning(int... transactions) {
        AriesEngine x = new AriesEngine(2);
        for (int t : transactions) {
            x.begin(t);
        }
        return x;
    }

    private static void makeWrites(AriesEngine x, int t, int cell, int count) {
        for (int i = 0; i < count; i++) {
            x.add(t, cell, 1);
        }
    }

    private static void newObject() {
        for (int frames : new int[] {LOW, -1, 0, 1, 2, 3, 4, HIGH}) {
            AriesEngine x = new AriesEngine(frames);
            for (int cell = 0; cell < 16; cell++) {
                due(1, "read of a new cell", x.read(cell), 0);
            }
            for (int t = 0; t < 3; t++) {
                due(1, "holds of a new transaction", x.holds(t), 0);
                due(1, "commit of a new transaction", x.commit(t), IDLE);
            }
            due(1, "checkpoint of a new object", x.checkpoint(), 0);
            due(1, "crash of a new object", x.crash(), 0);
            runThatFramesDoNotShowIn(x);
        }
        AriesEngine one = withRunning(0);
        AriesEngine other = new AriesEngine(2);
        one.write(0, 0, 5);
        due(1, "read in another object", other.read(0), 0);
        due(1, "holds in another object", other.holds(0), 0);
    }

    private static void runThatFramesDoNotShowIn(AriesEngine x) {
        x.begin(0);
        x.begin(1);
        for (int cell = 0; cell < 16; cell++) {
            due(1, "write over all cells", x.write(cell & 1, cell, 100 + cell), cell / 2 + 1);
        }
        due(1, "commit of half the cells", x.commit(0), 8);
        due(1, "crash with the other half", x.crash(), 1);
        for (int cell = 0; cell < 16; cell++) {
            due(1, "read after the crash", x.read(cell), (cell & 1) == 0 ? 100 + cell : 0);
        }
    }

    private static void begin() {
        AriesEngine x = new AriesEngine(1);
        for (int t : NO_TRANSACTION) {
            due(2, "begin(" + t + ")", x.begin(t), BAD);
        }
        due(2, "checkpoint after bad begins", x.checkpoint(), 0);
        for (int t = 0; t < 3; t++) {
            due(2, "begin(" + t + ")", x.begin(t), t);
            due(2, "begin(" + t + ") again", x.begin(t), HELD);
            due(2, "checkpoint after begin", x.checkpoint(), t + 1);
        }
        x.write(1, 4, 7);
        x.mark(1);
        x.write(1, 4, 8);
        due(2, "begin of a running one", x.begin(1), HELD);
        due(2, "holds after a refused begin", x.holds(1), 1 << 4);
        due(2, "back after a refused begin", x.back(1), 1);
        due(2, "read after a refused begin", x.read(4), 7);
        x.commit(1);
        due(2, "begin after commit", x.begin(1), 1);
        due(2, "holds after begin", x.holds(1), 0);
        x.abort(1);
        due(2, "begin after abort", x.begin(1), 1);
        x.crash();
        due(2, "begin after crash", x.begin(1), 1);
    }

    private static void write() {
        AriesEngine x = withRunning(0, 1);
        for (int t : NO_TRANSACTION) {
            due(3, "write(" + t + ", 0, 1)", x.write(t, 0, 1), BAD);
        }
        for (int cell : NO_CELL) {
            due(3, "write(0, " + cell + ", 1)", x.write(0, cell, 1), BAD);
        }
        due(3, "write of an idle one", x.write(2, 0, 1), IDLE);
        due(3, "holds after refused writes", x.holds(0), 0);
        due(3, "read after refused writes", x.read(0), 0);
        for (int cell = 0; cell < 16; cell++) {
            due(3, "write to one more cell", x.write(0, cell, LOW + cell), cell + 1);
            due(3, "read of it", x.read(cell), LOW + cell);
        }
        due(3, "write to a cell held before", x.write(0, 15, HIGH), 16);
        due(3, "write to another's cell", x.write(1, 15, 1), HELD);
        due(3, "read after HELD", x.read(15), HIGH);
        due(3, "holds after HELD", x.holds(1), 0);
        x.abort(0);
        due(3, "write after the holder's abort", x.write(1, 15, 1), 1);
        heldUntilTheEnd();
        twentyWrites();
    }

    private static void heldUntilTheEnd() {
        AriesEngine x = withRunning(0, 1, 2);
        x.write(2, 3, 5);
        due(3, "back", x.back(2), 1);
        due(3, "write(0) to a cell whose write was taken back", x.write(0, 3, 1), HELD);
        due(3, "write(1) to a cell whose write was taken back", x.write(1, 3, 1), HELD);
        due(3, "write of the holder", x.write(2, 3, 6), 1);
        x.commit(2);
        due(3, "write after the holder's commit", x.write(0, 3, 7), 1);
        x.crash();
        x.begin(1);
        due(3, "write after a crash", x.write(1, 3, 8), 1);
    }

    private static void twentyWrites() {
        AriesEngine x = withRunning(0, 1);
        for (int i = 1; i <= 20; i++) {
            due(3, "write " + i, x.write(0, 6, i), 1);
        }
        due(3, "write 21", x.write(0, 6, 21), FULL);
        due(3, "write 21 elsewhere", x.write(0, 7, 21), FULL);
        due(3, "read after FULL", x.read(6), 20);
        due(3, "holds after FULL", x.holds(0), 1 << 6);
        due(3, "write of another one", x.write(1, 7, 1), 1);
        due(3, "back of twenty", x.back(0), 20);
        due(3, "write after twenty were taken back", x.write(0, 6, 1), FULL);
        due(3, "commit", x.commit(0), 1);
        due(3, "read after commit of taken back writes", x.read(6), 0);
        x.begin(0);
        due(3, "write after a new begin", x.write(0, 6, 1), 1);
        refusedWritesDoNotCount();
    }

    private static void refusedWritesDoNotCount() {
        AriesEngine x = withRunning(0, 1);
        x.write(1, 1, 1);
        for (int i = 0; i < 30; i++) {
            x.write(0, 1, 1);
            x.write(0, 16, 1);
        }
        makeWrites(x, 0, 0, 19);
        due(3, "write 20 after refused ones", x.write(0, 0, 1), 1);
        due(3, "write 21 after refused ones", x.write(0, 0, 1), FULL);
        x.crash();
        x.begin(0);
        makeWrites(x, 0, 0, 19);
        due(3, "write 20 after a crash", x.write(0, 0, 1), 1);
        x.abort(0);
        x.begin(0);
        makeWrites(x, 0, 0, 19);
        due(3, "write 20 after an abort", x.write(0, 0, 1), 1);
    }

    private static void add() {
        AriesEngine x = withRunning(0, 1);
        for (int t : NO_TRANSACTION) {
            due(4, "add(" + t + ", 0, 1)", x.add(t, 0, 1), BAD);
        }
        for (int cell : NO_CELL) {
            due(4, "add(0, " + cell + ", 1)", x.add(0, cell, 1), BAD);
        }
        due(4, "add of an idle one", x.add(2, 0, 1), IDLE);
        due(4, "add to a new cell", x.add(0, 2, 5), 1);
        due(4, "add again", x.add(0, 2, -8), 1);
        due(4, "read of the sum", x.read(2), -3);
        due(4, "add to a second cell", x.add(0, 9, 0), 2);
        due(4, "holds after add of 0", x.holds(0), 1 << 2 | 1 << 9);
        due(4, "add to another's cell", x.add(1, 2, 1), HELD);
        due(4, "read after HELD", x.read(2), -3);
        x.write(0, 2, HIGH);
        x.add(0, 2, 1);
        due(4, "read of a sum that wraps", x.read(2), LOW);
        x.add(0, 2, -1);
        due(4, "read of a sum that wraps back", x.read(2), HIGH);
        x.add(0, 2, HIGH);
        due(4, "read of twice the highest", x.read(2), -2);
        addCountsAsWrite();
        addAfterBack();
    }

    private static void addCountsAsWrite() {
        AriesEngine x = withRunning(0);
        for (int i = 0; i < 10; i++) {
            x.write(0, 0, 100);
            x.add(0, 0, 1);
        }
        due(4, "add 21", x.add(0, 0, 1), FULL);
        due(4, "write 21", x.write(0, 0, 1), FULL);
        due(4, "read after FULL", x.read(0), 101);
        due(4, "back", x.back(0), 20);
        due(4, "read after back", x.read(0), 0);
    }

    private static void addAfterBack() {
        AriesEngine x = withRunning(0, 1);
        x.add(0, 5, 10);
        x.mark(0);
        x.add(0, 5, 100);
        x.back(0);
        x.add(0, 5, 1);
        due(4, "read of add after back", x.read(5), 11);
        x.commit(0);
        x.add(1, 5, 1);
        due(4, "read of add to a committed value", x.read(5), 12);
        x.abort(1);
        due(4, "read after abort of add", x.read(5), 11);
    }

    private static void read() {
        AriesEngine x = withRunning(0);
        for (int cell = 0; cell < 16; cell++) {
            x.write(0, cell, 50 + cell);
        }
        for (int cell : NO_CELL) {
            due(5, "read(" + cell + ")", x.read(cell), 0);
        }
        for (int cell = 0; cell < 16; cell++) {
            due(5, "read before the commit", x.read(cell), 50 + cell);
        }
        x.commit(0);
        for (int cell = 0; cell < 16; cell++) {
            due(5, "read after the commit", x.read(cell), 50 + cell);
        }
    }

    private static void commit() {
        AriesEngine x = withRunning(0, 1);
        for (int t : NO_TRANSACTION) {
            due(6, "commit(" + t + ")", x.commit(t), BAD);
        }
        due(6, "commit of an idle one", x.commit(2), IDLE);
        x.write(0, 1, 4);
        x.write(0, 1, 5);
        x.write(0, 2, 6);
        x.write(1, 3, 7);
        due(6, "commit", x.commit(0), 2);
        due(6, "commit again", x.commit(0), IDLE);
        due(6, "holds after commit", x.holds(0), 0);
        due(6, "holds of the other", x.holds(1), 1 << 3);
        due(6, "checkpoint after commit", x.checkpoint(), 1);
        due(6, "crash", x.crash(), 1);
        due(6, "read after the crash", x.read(1), 5);
        due(6, "read after the crash", x.read(2), 6);
        due(6, "read after the crash", x.read(3), 0);
        x.begin(0);
        due(6, "back right after begin", x.back(0), 0);
        due(6, "abort right after begin", x.abort(0), 0);
        due(6, "read after abort", x.read(1), 5);
        x.begin(0);
        due(6, "commit without writes", x.commit(0), 0);
        x.begin(0);
        x.write(0, 8, 1);
        x.mark(0);
        x.write(0, 9, 1);
        x.back(0);
        due(6, "commit after back", x.commit(0), 2);
        due(6, "read of what stayed", x.read(8), 1);
        due(6, "read of what was taken back", x.read(9), 0);
    }

    private static void abort() {
        AriesEngine x = withRunning(0, 1);
        for (int t : NO_TRANSACTION) {
            due(7, "abort(" + t + ")", x.abort(t), BAD);
        }
        due(7, "abort of an idle one", x.abort(2), IDLE);
        x.write(0, 1, 4);
        x.commit(0);
        x.begin(0);
        x.write(0, 1, 5);
        x.write(0, 2, 6);
        x.write(1, 3, 9);
        x.mark(0);
        x.write(0, 1, 7);
        x.add(0, 1, 8);
        due(7, "abort", x.abort(0), 2);
        due(7, "read of a cell written thrice", x.read(1), 4);
        due(7, "read of a cell written before the mark", x.read(2), 0);
        due(7, "read of another's cell", x.read(3), 9);
        due(7, "abort again", x.abort(0), IDLE);
        due(7, "holds after abort", x.holds(0), 0);
        due(7, "checkpoint after abort", x.checkpoint(), 1);
        x.write(1, 4, 1);
        x.back(1);
        due(7, "abort after back", x.abort(1), 2);
        due(7, "read after abort after back", x.read(3), 0);
        x.begin(2);
        due(7, "abort without writes", x.abort(2), 0);
    }

    private static void mark() {
        AriesEngine x = withRunning(0, 1, 2);
        for (int t : NO_TRANSACTION) {
            due(8, "mark(" + t + ")", x.mark(t), BAD);
        }
        x.commit(1);
        due(8, "mark of an idle one", x.mark(1), IDLE);
        due(8, "mark", x.mark(0), 0);
        due(8, "mark", x.mark(2), 2);
        x.write(0, 0, 1);
        x.write(2, 1, 1);
        x.mark(0);
        x.write(0, 0, 2);
        x.mark(0);
        x.write(0, 0, 3);
        due(8, "back to the newest mark", x.back(0), 1);
        due(8, "read there", x.read(0), 2);
        due(8, "back of another one, with its own mark", x.back(2), 1);
        x.mark(0);
        due(8, "back right after mark", x.back(0), 0);
        x.commit(0);
        x.begin(0);
        x.write(0, 0, 9);
        due(8, "back to the begin of a new run", x.back(0), 1);
        due(8, "read there", x.read(0), 2);
        marksAreGoneAfterTheEnd();
    }

    private static void marksAreGoneAfterTheEnd() {
        AriesEngine x = withRunning(0);
        for (int way = 0; way < 4; way++) {
            makeWrites(x, 0, 7, 5);
            x.mark(0);
            switch (way) {
                case 0 -> x.abort(0);
                case 1 -> x.crash();
                case 2 -> x.crashTwice(7);
                default -> x.commit(0);
            }
            x.begin(0);
            x.write(0, 8, 1);
            x.write(0, 8, 2);
            due(8, "back after the end of a marked run", x.back(0), 2);
            due(8, "read after it", x.read(8), 0);
            x.abort(0);
            x.begin(0);
        }
    }

    private static void back() {
        AriesEngine x = withRunning(0, 1);
        for (int t : NO_TRANSACTION) {
            due(9, "back(" + t + ")", x.back(t), BAD);
        }
        due(9, "back of an idle one", x.back(2), IDLE);
        due(9, "back without writes", x.back(0), 0);
        x.write(0, 4, 1);
        x.write(1, 5, 50);
        x.write(0, 4, 2);
        due(9, "back to the begin", x.back(0), 2);
        due(9, "read", x.read(4), 0);
        due(9, "read of another's", x.read(5), 50);
        due(9, "holds after back", x.holds(0), 1 << 4);
        due(9, "back again", x.back(0), 0);
        x.write(0, 4, 3);
        x.mark(0);
        x.write(0, 4, 4);
        x.write(0, 6, 5);
        x.add(0, 4, 6);
        due(9, "back to a mark", x.back(0), 3);
        due(9, "read of a cell written on both sides", x.read(4), 3);
        due(9, "read of a cell written after it", x.read(6), 0);
        due(9, "holds after back to a mark", x.holds(0), 1 << 4 | 1 << 6);
        x.write(0, 6, 7);
        due(9, "back to the same mark", x.back(0), 1);
        due(9, "checkpoint after back", x.checkpoint(), 2);
        due(9, "back after mark and back", x.back(0), 0);
        due(9, "abort", x.abort(0), 2);
        due(9, "read after abort", x.read(4), 0);
    }

    private static void crashes(int promise, int steps) {
        AriesEngine x = withRunning(0, 1, 2);
        x.write(0, 0, 10);
        x.write(1, 1, 11);
        x.write(2, 2, 12);
        x.commit(1);
        x.begin(1);
        x.write(1, 1, 13);
        x.mark(1);
        x.write(1, 1, 14);
        x.checkpoint();
        x.write(0, 0, 15);
        due(promise, "a crash of three", anyCrash(x, promise, steps), 3);
        due(promise, "read of a lost write", x.read(0), 0);
        due(promise, "read of a committed one", x.read(1), 11);
        due(promise, "read of a lost write", x.read(2), 0);
        for (int t = 0; t < 3; t++) {
            due(promise, "holds after a crash", x.holds(t), 0);
            due(promise, "mark after a crash", x.mark(t), IDLE);
        }
        due(promise, "a crash of none", anyCrash(x, promise, steps), 0);
        x.begin(2);
        due(promise, "write after a crash", x.write(2, 0, 20), 1);
        due(promise, "a crash of one", anyCrash(x, promise, steps), 1);
        due(promise, "read after crashes", x.read(0), 0);
        due(promise, "read after crashes", x.read(1), 11);
        crashAfterAbortAndBack(promise, steps);
    }

    private static void crashAfterAbortAndBack(int promise, int steps) {
        AriesEngine x = withRunning(0, 1);
        x.write(0, 0, 1);
        x.write(1, 1, 1);
        x.abort(0);
        x.begin(0);
        x.write(0, 0, 2);
        x.commit(0);
        x.mark(1);
        x.write(1, 2, 3);
        x.back(1);
        x.write(1, 1, 4);
        due(promise, "a crash after an abort", anyCrash(x, promise, steps), 1);
        due(promise, "read of a cell aborted, then committed", x.read(0), 2);
        due(promise, "read of a cell lost", x.read(1), 0);
        due(promise, "read of a cell taken back", x.read(2), 0);
    }

    private static int anyCrash(AriesEngine x, int promise, int steps) {
        return promise == 10 ? x.crash() : x.crashTwice(steps);
    }

    private static void crashTwice() {
        for (int steps = -2; steps <= 42; steps++) {
            crashes(11, steps);
        }
        crashes(11, LOW);
        crashes(11, HIGH);
    }

    private static void checkpoint() {
        AriesEngine x = new AriesEngine(1);
        due(12, "checkpoint of none", x.checkpoint(), 0);
        x.begin(2);
        due(12, "checkpoint of one", x.checkpoint(), 1);
        x.begin(0);
        x.begin(1);
        due(12, "checkpoint of three", x.checkpoint(), 3);
        x.write(0, 0, 1);
        x.checkpoint();
        x.write(0, 0, 2);
        x.checkpoint();
        due(12, "read after checkpoint", x.read(0), 2);
        due(12, "holds after checkpoint", x.holds(0), 1);
        due(12, "back after checkpoint", x.back(0), 2);
        due(12, "read after back", x.read(0), 0);
        x.write(1, 1, 5);
        x.commit(1);
        x.checkpoint();
        due(12, "checkpoint again", x.checkpoint(), 2);
        due(12, "crash after checkpoint", x.crash(), 2);
        due(12, "read after crash", x.read(1), 5);
        due(12, "checkpoint after crash", x.checkpoint(), 0);
    }

    private static void holds() {
        AriesEngine x = withRunning(0, 1);
        for (int t : NO_TRANSACTION) {
            due(13, "holds(" + t + ")", x.holds(t), BAD);
        }
        due(13, "holds of an idle one", x.holds(2), 0);
        due(13, "holds without writes", x.holds(0), 0);
        x.write(0, 0, 1);
        x.add(0, 15, 1);
        x.write(1, 7, 1);
        due(13, "holds", x.holds(0), 1 | 1 << 15);
        due(13, "holds", x.holds(1), 1 << 7);
        x.write(1, 0, 1);
        due(13, "holds after HELD", x.holds(1), 1 << 7);
        x.back(0);
        due(13, "holds after back", x.holds(0), 1 | 1 << 15);
        x.commit(0);
        due(13, "holds after commit", x.holds(0), 0);
        x.begin(0);
        due(13, "holds after a new begin", x.holds(0), 0);
        for (int cell = 0; cell < 16; cell++) {
            x.write(0, cell, 1);
        }
        due(13, "holds of all but another's", x.holds(0), 0xFFFF & ~(1 << 7));
        x.abort(1);
        x.write(0, 7, 1);
        due(13, "holds of all", x.holds(0), 0xFFFF);
    }

    private static void order() {
        AriesEngine x = withRunning(0, 1);
        x.write(1, 3, 1);
        dueOfBoth(x, "bad t and bad cell", 3, 16, BAD);
        dueOfBoth(x, "bad t, a cell that is held", -1, 3, BAD);
        dueOfBoth(x, "idle and bad cell", 2, -1, BAD);
        dueOfBoth(x, "idle, a cell that is held", 2, 3, IDLE);
        makeWrites(x, 0, 4, 20);
        dueOfBoth(x, "full and bad cell", 0, 16, BAD);
        dueOfBoth(x, "full, a cell that is held", 0, 3, HELD);
        dueOfBoth(x, "full, its own cell", 0, 4, FULL);
        dueOfBoth(x, "full, a free cell", 0, 5, FULL);
        x.commit(0);
        dueOfBoth(x, "idle after full, a cell that is held", 0, 3, IDLE);
        x.begin(0);
        dueOfBoth(x, "begun after full, a free cell", 0, 5, 1);
        due(14, "read of the cell held", x.read(3), 1);
        due(14, "holds of the holder", x.holds(1), 1 << 3);
    }

    private static void dueOfBoth(AriesEngine x, String what, int t, int cell, int want) {
        due(14, "write, " + what, x.write(t, cell, 77), want);
        due(14, "add, " + what, x.add(t, cell, 77), want);
    }

    public static void main(String[] args) {
        newObject();
        begin();
        write();
        add();
        read();
        commit();
        abort();
        mark();
        back();
        crashes(10, 0);
        crashTwice();
        checkpoint();
        holds();
        order();
        System.out.println(wrong == 0 ? "all answers are as due" : wrong + " answers are not as due");
        if (wrong != 0) {
            System.exit(1);
        }
    }
}
