/**
 * Interleaved transactions over 16 cells, with marks to go back to, and crashes.
 *
 * No answer shows pages, frames, a log or how far a restart comes, so none of these is held:
 * each running transaction keeps the values that its writes replaced, and a crash puts them back.
 */
public final class AriesEngine {
    public static final int BAD = -1;
    public static final int IDLE = -2;
    public static final int HELD = -3;
    public static final int FULL = -4;

    private static final int FINE = 0;
    private static final int CELLS = 16;
    private static final int TRANSACTIONS = 3;
    private static final int WRITE_LIMIT = 20;
    private static final int UNDO_SLOTS = TRANSACTIONS * WRITE_LIMIT;

    private final int[] values = new int[CELLS];

    private final boolean[] running = new boolean[TRANSACTIONS];
    private final int[] heldCells = new int[TRANSACTIONS];
    // Apart from undoDepth, because a write that was taken back still counts towards the limit.
    private final int[] writesMade = new int[TRANSACTIONS];
    private final int[] undoDepth = new int[TRANSACTIONS];
    private final int[] markDepth = new int[TRANSACTIONS];

    // Transaction t has the WRITE_LIMIT slots from t * WRITE_LIMIT on, as a stack.
    private final int[] undoCell = new int[UNDO_SLOTS];
    private final int[] undoValue = new int[UNDO_SLOTS];

    /** frames shows in no answer, so it is not kept. */
    public AriesEngine(int frames) {
    }

    public int begin(int t) {
        if (!isTransaction(t)) {
            return BAD;
        }
        if (running[t]) {
            return HELD;
        }
        running[t] = true;
        return t;
    }

    public int write(int t, int cell, int value) {
        int refusal = refusalOfWrite(t, cell);
        if (refusal != FINE) {
            return refusal;
        }
        return store(t, cell, value);
    }

    public int add(int t, int cell, int more) {
        int refusal = refusalOfWrite(t, cell);
        if (refusal != FINE) {
            return refusal;
        }
        return store(t, cell, values[cell] + more);
    }

    public int read(int cell) {
        return isCell(cell) ? values[cell] : 0;
    }

    public int commit(int t) {
        int refusal = refusalOfIdle(t);
        if (refusal != FINE) {
            return refusal;
        }
        int held = countHeld(t);
        end(t);
        return held;
    }

    public int abort(int t) {
        int refusal = refusalOfIdle(t);
        if (refusal != FINE) {
            return refusal;
        }
        int held = countHeld(t);
        takeBack(t, 0);
        end(t);
        return held;
    }

    public int mark(int t) {
        int refusal = refusalOfIdle(t);
        if (refusal != FINE) {
            return refusal;
        }
        markDepth[t] = undoDepth[t];
        return t;
    }

    public int back(int t) {
        int refusal = refusalOfIdle(t);
        if (refusal != FINE) {
            return refusal;
        }
        return takeBack(t, markDepth[t]);
    }

    public int crash() {
        return loseRunning();
    }

    /** A restart that crashes has nothing left to take back, so steps makes no difference. */
    public int crashTwice(int steps) {
        return loseRunning();
    }

    /** There is no log for a restart to begin in, so there is nothing to note. */
    public int checkpoint() {
        return countRunning();
    }

    public int holds(int t) {
        return isTransaction(t) ? heldCells[t] : BAD;
    }

    private boolean isTransaction(int t) {
        return t >= 0 && t < TRANSACTIONS;
    }

    private boolean isCell(int cell) {
        return cell >= 0 && cell < CELLS;
    }

    private int refusalOfIdle(int t) {
        if (!isTransaction(t)) {
            return BAD;
        }
        return running[t] ? FINE : IDLE;
    }

    private int refusalOfWrite(int t, int cell) {
        if (!isTransaction(t) || !isCell(cell)) {
            return BAD;
        }
        if (!running[t]) {
            return IDLE;
        }
        if (isHeldByAnother(t, cell)) {
            return HELD;
        }
        return writesMade[t] < WRITE_LIMIT ? FINE : FULL;
    }

    private boolean isHeldByAnother(int t, int cell) {
        boolean found = false;
        for (int other = 0; other < TRANSACTIONS; other++) {
            if (other != t && (heldCells[other] & (1 << cell)) != 0) {
                found = true;
            }
        }
        return found;
    }

    private int store(int t, int cell, int value) {
        int slot = t * WRITE_LIMIT + undoDepth[t];
        undoCell[slot] = cell;
        undoValue[slot] = values[cell];
        undoDepth[t]++;
        writesMade[t]++;
        heldCells[t] |= 1 << cell;
        values[cell] = value;
        return countHeld(t);
    }

    // Newest first, so that a cell written more than once ends with its oldest value.
    private int takeBack(int t, int depth) {
        int taken = 0;
        for (int at = undoDepth[t] - 1; at >= depth; at--) {
            int slot = t * WRITE_LIMIT + at;
            values[undoCell[slot]] = undoValue[slot];
            taken++;
        }
        undoDepth[t] = depth;
        return taken;
    }

    private void end(int t) {
        running[t] = false;
        heldCells[t] = 0;
        writesMade[t] = 0;
        undoDepth[t] = 0;
        markDepth[t] = 0;
    }

    // No cell is held by two, so the order of the transactions doesn't matter.
    private int loseRunning() {
        int lost = countRunning();
        for (int t = 0; t < TRANSACTIONS; t++) {
            takeBack(t, 0);
            end(t);
        }
        return lost;
    }

    private int countRunning() {
        int count = 0;
        for (int t = 0; t < TRANSACTIONS; t++) {
            if (running[t]) {
                count++;
            }
        }
        return count;
    }

    private int countHeld(int t) {
        int count = 0;
        for (int cell = 0; cell < CELLS; cell++) {
            count += (heldCells[t] >> cell) & 1;
        }
        return count;
    }
}
