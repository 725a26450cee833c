import java.util.ArrayList;
import java.util.List;
import java.util.Map;
import java.util.TreeMap;

// One case for each boundary that a sentence of the document names. A case is that sentence and a
// run of calls on a new object, each with the answer that is due: "write 0 4 7 = 1".
// "20* write 0 4 7 = 1" makes the call 20 times; a word of SETS stands for each number of its set
// in turn, on both sides. In cases of write and add, "put" is the one and then the other.
public final class BoundaryTest {
    private static final int MIN = Integer.MIN_VALUE;
    private static final int MAX = Integer.MAX_VALUE;
    private static final int MOST_CALLS = 512;

    private static final Map<String, Integer> NUMBERS = Map.of(
        "BAD", -1, "IDLE", -2, "HELD", -3, "FULL", -4, "MIN", MIN, "MAX", MAX, "ALL", 0xFFFF);

    // 256, 65536 and their like would be inside if they were cut to a byte, to 16 bits or to a mask.
    // Sorted, so that a row with two sets unfolds in the same order each time.
    private static final Map<String, int[]> SETS = new TreeMap<>(Map.of(
        "ANY_T", new int[] {0, 1, 2},
        "NO_T", new int[] {-1, -2, 3, 4, 256, -256, 65536, MIN, MIN + 1, MAX},
        "ANY_CELL", new int[] {0, 1, 2, 3, 4, 5, 6, 7, 8, 9, 10, 11, 12, 13, 14, 15},
        "NO_CELL", new int[] {-1, -2, -16, 16, 17, 31, 32, 256, -256, 65536, MIN, MIN + 1, MAX}));

    private static final int[] FRAMES = {MIN, -1, 0, 1, 2, 3, 4, 5, MAX};
    private static final String[] ENDS = {"commit 0", "abort 0", "crash", "crashTwice 0", "crashTwice 40"};
    private static final String[] CRASHES = {"crash", "crashTwice 0", "crashTwice 3", "crashTwice 40"};

    // Goes through every kind of call; used where the document says that something can't be seen.
    private static final String[] MIXED = {
        "begin 0 = 0", "begin 1 = 1", "write 0 0 5 = 1", "write 1 15 6 = 1", "commit 0 = 1",
        "begin 0 = 0", "add 0 0 MAX = 1", "mark 0 = 0", "write 0 4 7 = 2", "write 0 8 8 = 3",
        "write 0 0 9 = 3", "write 1 4 1 = HELD", "back 0 = 3", "read 0 = -2147483644",
        "read 4 = 0", "holds 0 = 273", "write 1 4 1 = HELD", "back 0 = 0", "begin 2 = 2",
        "15* write 2 5 1 = 1", "5* add 2 5 1 = 1", "add 2 5 1 = FULL", "checkpoint = 3", "write 2 16 1 = BAD",
        "add 0 12 3 = 4", "abort 1 = 1", "read 15 = 0", "write 1 4 1 = IDLE", "commit 2 = 1",
        "crashTwice 7 = 1", "read 0 = 5", "read 5 = 6", "read 12 = 0", "holds ANY_T = 0",
        "begin 1 = 1", "write 1 0 1 = 1", "crash = 1", "read 0 = 5", "checkpoint = 0"};

    private static int cases = 0;
    private static int wrong = 0;

    private static int number(String word) {
        if (word.endsWith("+1")) {
            return number(word.substring(0, word.length() - 2)) + 1;
        }
        return NUMBERS.containsKey(word) ? NUMBERS.get(word) : Integer.parseInt(word);
    }

    private static int answer(AriesEngine x, String[] call) {
        int[] a = new int[3];
        for (int i = 1; i < call.length; i++) {
            a[i - 1] = number(call[i]);
        }
        return switch (call[0] + "/" + (call.length - 1)) {
            case "begin/1" -> x.begin(a[0]);
            case "write/3" -> x.write(a[0], a[1], a[2]);
            case "add/3" -> x.add(a[0], a[1], a[2]);
            case "read/1" -> x.read(a[0]);
            case "commit/1" -> x.commit(a[0]);
            case "abort/1" -> x.abort(a[0]);
            case "mark/1" -> x.mark(a[0]);
            case "back/1" -> x.back(a[0]);
            case "crash/0" -> x.crash();
            case "crashTwice/1" -> x.crashTwice(a[0]);
            case "checkpoint/0" -> x.checkpoint();
            case "holds/1" -> x.holds(a[0]);
            default -> throw new IllegalArgumentException(String.join(" ", call));
        };
    }

    // No call may throw; one that does must not keep the other cases from running.
    private static String answerOrFault(AriesEngine x, String[] call) {
        try {
            return String.valueOf(answer(x, call));
        } catch (ArrayIndexOutOfBoundsException | ArithmeticException fault) {
            return fault.toString();
        }
    }

    private static List<String> unfoldSets(List<String> rows) {
        List<String> unfolded = rows;
        for (String set : SETS.keySet()) {
            List<String> next = new ArrayList<>();
            for (String row : unfolded) {
                if (!row.matches(".*\\b" + set + "\\b.*")) {
                    next.add(row);
                    continue;
                }
                for (int member : SETS.get(set)) {
                    next.add(row.replaceAll("\\b" + set + "\\b", String.valueOf(member)));
                }
            }
            unfolded = next;
        }
        return unfolded;
    }

    private static List<String> unfold(String... rows) {
        List<String> unfolded = new ArrayList<>();
        for (String row : unfoldSets(List.of(rows))) {
            int star = row.indexOf("* ");
            int times = star < 0 ? 1 : Integer.parseInt(row.substring(0, star));
            for (int i = 0; i < times; i++) {
                unfolded.add(star < 0 ? row : row.substring(star + 2));
            }
        }
        return unfolded;
    }

    private static void run(String name, int frames, List<String> rows) {
        cases++;
        if (rows.size() > MOST_CALLS) {
            throw new IllegalArgumentException(name + ": " + rows.size() + " calls");
        }
        AriesEngine x = new AriesEngine(frames);
        for (int i = 0; i < rows.size(); i++) {
            String[] sides = rows.get(i).split(" = ");
            String got = answerOrFault(x, sides[0].split(" "));
            if (!got.equals(String.valueOf(number(sides[1])))) {
                wrong++;
                System.out.println(name + ": call " + (i + 1) + ", " + sides[0] + ", answered " + got + ", due is " + sides[1]);
            }
        }
    }

    private static void edge(String sentence, String... rows) {
        run(sentence, 2, unfold(rows));
    }

    private static String[] replaced(String word, String by, String... rows) {
        String[] changed = new String[rows.length];
        for (int i = 0; i < rows.length; i++) {
            changed[i] = rows[i].replaceAll("\\b" + word + "\\b", by);
        }
        return changed;
    }

    private static void edgeOfPut(String sentence, String... rows) {
        edge("3 write: " + sentence, replaced("put", "write", rows));
        edge("4 add: " + sentence, replaced("put", "add", rows));
    }

    private static void edgeOfEach(String word, String[] choices, String sentence, String... rows) {
        for (String choice : choices) {
            edge(sentence + " (" + choice + ")", replaced(word, choice, rows));
        }
    }

    // ---- What it is ----

    private static void calls() {
        for (String end : new String[] {"commit 0 = 1", "abort 0 = 1", "crash = 1", "crashTwice 20 = 1"}) {
            boolean stays = end.startsWith("commit");
            List<String> rows = new ArrayList<>();
            for (int i = 0; i < 23; i++) {
                rows.addAll(unfold("begin 0 = 0", "20* add 0 3 1 = 1", end));
            }
            rows.addAll(unfold("begin 2 = 2", "mark 2 = 2", "write 2 4 1 = 1", "back 2 = 1", "crash = 1",
                "read 3 = " + (stays ? 460 : 0)));
            atTheLastCall("what it is: at most 512 calls (" + end + ")", rows);
        }
        atTheLastCall("what it is: at most 512 calls, all but seven of them marks and backs", unfold(
            "begin 0 = 0", "write 0 3 5 = 1", "commit 0 = 1", "begin 0 = 0", "write 0 3 7 = 1",
            "252* mark 0 = 0", "253* back 0 = 0", "crash = 1", "read 3 = 5"));
        atTheLastCall("what it is: at most 512 calls, all but four of them refused", unfold(
            "begin 0 = 0", "write 0 3 5 = 1", "508* write 0 16 1 = BAD", "back 0 = 1", "read 3 = 0"));
    }

    private static void atTheLastCall(String name, List<String> rows) {
        if (rows.size() != MOST_CALLS) {
            throw new IllegalArgumentException(name + ": " + rows.size() + " calls");
        }
        run(name, 2, rows);
    }

    // ---- Terms ----

    private static void cellsAndTransactions() {
        edge("terms: 16 CELLS, 0 to 15", "begin 0 = 0", "write 0 0 7 = 1", "write 0 15 8 = 2",
            "read 0 = 7", "read 15 = 8", "read 1 = 0", "read 14 = 0");
        edge("terms: cells hold ints, the smallest and the largest", "begin 0 = 0", "write 0 3 MIN = 1",
            "write 0 4 MAX = 2", "write 0 5 -1 = 3", "read 3 = MIN", "read 4 = MAX", "read 5 = -1",
            "commit 0 = 3", "begin 1 = 1", "write 1 3 0 = 1", "write 1 4 0 = 2", "write 1 5 0 = 3",
            "abort 1 = 3", "read 3 = MIN", "read 4 = MAX", "read 5 = -1");
        edge("terms: in the beginning all are 0", "read ANY_CELL = 0");
        edge("terms: 3 TRANSACTIONS, 0 to 2, all running at once", "begin 2 = 2", "begin 0 = 0", "begin 1 = 1",
            "write 2 0 1 = 1", "write 0 1 2 = 1", "write 1 2 3 = 1", "holds 2 = 1", "holds 0 = 2", "holds 1 = 4",
            "commit 1 = 1", "abort 2 = 1", "commit 0 = 1", "read 0 = 0", "read 1 = 2", "read 2 = 3");
    }

    private static void holding() {
        edge("terms: holds what it has written since it was begun, not what it wrote before", "begin 0 = 0",
            "write 0 3 1 = 1", "commit 0 = 1", "begin 0 = 0", "holds 0 = 0", "write 0 4 1 = 1", "commit 0 = 1");
        edge("terms: holds what it has written, not what was read", "begin 0 = 0", "begin 1 = 1", "read 3 = 0",
            "holds 0 = 0", "holds 1 = 0", "write 0 3 1 = 1", "read 3 = 1", "holds 1 = 0");
        edgeOfEach("END", ENDS, "terms: until its end", "begin 0 = 0", "write 0 3 1 = 1", "END = 1",
            "holds 0 = 0", "begin 1 = 1", "write 1 3 2 = 1", "begin 0 = 0", "write 0 3 3 = HELD");
        edge("terms: also if a write has been taken back: holds", "begin 0 = 0", "write 0 3 1 = 1", "back 0 = 1",
            "holds 0 = 8");
        edge("terms: also if a write has been taken back: HELD", "begin 0 = 0", "begin 1 = 1", "write 0 3 1 = 1",
            "back 0 = 1", "write 1 3 1 = HELD", "add 1 3 1 = HELD", "holds 1 = 0");
        edge("terms: also if a write has been taken back: write", "begin 0 = 0", "write 0 3 1 = 1", "back 0 = 1",
            "write 0 3 1 = 1", "write 0 4 1 = 2");
        edge("terms: also if a write has been taken back: commit", "begin 0 = 0", "write 0 3 1 = 1", "back 0 = 1",
            "commit 0 = 1");
        edge("terms: also if a write has been taken back: abort", "begin 0 = 0", "write 0 3 1 = 1", "back 0 = 1",
            "abort 0 = 1");
    }

    private static void markAndValue() {
        edge("terms: a MARK, at first where it was begun", "begin 0 = 0", "write 0 3 1 = 1", "write 0 4 2 = 2",
            "back 0 = 2", "read 3 = 0", "read 4 = 0");
        edgeOfEach("END", ENDS, "terms: a MARK, at first where it was begun, not where it was before its end",
            "begin 0 = 0", "3* write 0 3 1 = 1", "mark 0 = 0", "END = 1", "begin 0 = 0", "2* write 0 4 1 = 1",
            "back 0 = 2", "read 4 = 0");
        edge("terms: VALUE, before the first of the writes that were taken back", "begin 0 = 0", "write 0 3 1 = 1",
            "mark 0 = 0", "write 0 3 2 = 1", "write 0 3 3 = 1", "write 0 3 4 = 1", "back 0 = 3", "read 3 = 1",
            "write 0 3 5 = 1", "abort 0 = 1", "read 3 = 0");
        edge("terms: VALUE, before the first of the writes: of another transaction's commit", "begin 0 = 0",
            "write 0 3 1 = 1", "begin 1 = 1", "commit 0 = 1", "write 1 3 2 = 1", "write 1 3 3 = 1", "abort 1 = 1",
            "read 3 = 1");
        edgeOfEach("CRASH", CRASHES, "terms: a CRASH takes back all writes of the running, before and after the mark",
            "begin 0 = 0", "write 0 3 1 = 1", "mark 0 = 0", "write 0 3 2 = 1", "write 0 4 3 = 2", "CRASH = 1",
            "read 3 = 0", "read 4 = 0");
        edgeOfEach("CRASH", CRASHES, "terms: a CRASH: all are idle then", "begin ANY_T = ANY_T", "CRASH = 3",
            "commit ANY_T = IDLE", "abort ANY_T = IDLE", "mark ANY_T = IDLE", "back ANY_T = IDLE",
            "write ANY_T 0 1 = IDLE", "add ANY_T 0 1 = IDLE", "holds ANY_T = 0", "checkpoint = 0");
    }

    // ---- Promises 1 and 2 ----

    private static void newObject() {
        for (int frames : FRAMES) {
            run("1: frames, clamped into 1..3, shows in no answer (" + frames + ")", frames, unfold(MIXED));
        }
        edge("1: all transactions are idle", "holds ANY_T = 0", "commit ANY_T = IDLE", "abort ANY_T = IDLE",
            "mark ANY_T = IDLE", "back ANY_T = IDLE", "write ANY_T 0 1 = IDLE", "add ANY_T 0 1 = IDLE",
            "checkpoint = 0", "crash = 0", "begin 0 = 0", "begin 1 = 1", "begin 2 = 2");
    }

    private static void begin() {
        edge("2: t outside 0..2: BAD", "begin NO_T = BAD", "checkpoint = 0", "begin 0 = 0", "begin 1 = 1",
            "begin 2 = 2", "begin NO_T = BAD", "checkpoint = 3");
        edge("2: it is running: HELD", "begin 0 = 0", "begin 0 = HELD", "begin 2 = 2", "begin 2 = HELD",
            "begin 1 = 1", "begin 1 = HELD", "begin 0 = HELD", "checkpoint = 3");
        edge("2: it is running: HELD, and goes on as it was", "begin 0 = 0", "write 0 3 1 = 1", "mark 0 = 0",
            "18* write 0 3 2 = 1", "begin 0 = HELD", "holds 0 = 8", "read 3 = 2", "write 0 3 3 = 1",
            "write 0 3 4 = FULL", "begin 0 = HELD", "write 0 3 4 = FULL", "back 0 = 19", "read 3 = 1",
            "begin 0 = HELD", "abort 0 = 1", "read 3 = 0");
        edgeOfEach("END", ENDS, "2: else answers t, also after an end", "begin 0 = 0", "write 0 3 1 = 1", "END = 1",
            "begin 0 = 0", "begin 0 = HELD", "holds 0 = 0", "commit 0 = 0");
    }

    // ---- Promises 3, 4 and 14 ----

    private static void putRefused() {
        edgeOfPut("t outside 0..2: BAD", "begin 0 = 0", "begin 1 = 1", "begin 2 = 2", "put NO_T 0 1 = BAD",
            "put NO_T 15 1 = BAD");
        edgeOfPut("cell outside 0..15: BAD", "begin 0 = 0", "begin 1 = 1", "begin 2 = 2", "put ANY_T NO_CELL 1 = BAD");
        edgeOfPut("t is idle: IDLE, never begun", "begin 1 = 1", "put 0 0 1 = IDLE", "put 2 15 1 = IDLE", "put 1 0 1 = 1");
        edgeOfEach("END", ENDS, "3 write, 4 add: t is idle: IDLE, after its end", "begin 0 = 0", "write 0 3 1 = 1",
            "END = 1", "write 0 3 1 = IDLE", "add 0 3 1 = IDLE");
        for (int t = 0; t < 3; t++) {
            int next = (t + 1) % 3;
            int last = (t + 2) % 3;
            edgeOfPut("another running transaction holds the cell: HELD (" + t + ")", "begin 0 = 0", "begin 1 = 1",
                "begin 2 = 2", "put " + t + " 0 1 = 1", "put " + t + " 15 1 = 2",
                "put " + next + " 0 1 = HELD", "put " + last + " 0 1 = HELD",
                "put " + next + " 15 1 = HELD", "put " + last + " 15 1 = HELD",
                "put " + next + " 1 1 = 1", "put " + last + " 14 1 = 1");
        }
        edgeOfPut("another holds the cell: HELD, not if it holds it itself", "begin 0 = 0", "begin 1 = 1",
            "put 0 3 1 = 1", "put 0 3 2 = 1", "put 1 4 1 = 1", "put 1 4 2 = 1");
        edgeOfPut("another running transaction holds the cell: not after its commit", "begin 0 = 0", "begin 1 = 1",
            "put 0 3 1 = 1", "put 1 3 1 = HELD", "commit 0 = 1", "put 1 3 1 = 1");
        edgeOfPut("another running transaction holds the cell: not after its abort", "begin 0 = 0", "begin 1 = 1",
            "put 0 3 1 = 1", "put 1 3 1 = HELD", "abort 0 = 1", "put 1 3 1 = 1");
    }

    private static void putFull() {
        edgeOfPut("20 writes to one cell, then FULL", "begin 0 = 0", "20* put 0 3 1 = 1", "put 0 3 1 = FULL",
            "put 0 4 1 = FULL", "put 0 3 1 = FULL");
        edgeOfPut("20 writes, over all cells, then FULL", "begin 0 = 0", "put 0 0 1 = 1", "put 0 1 1 = 2",
            "put 0 2 1 = 3", "put 0 3 1 = 4", "put 0 4 1 = 5", "put 0 5 1 = 6", "put 0 6 1 = 7", "put 0 7 1 = 8",
            "put 0 8 1 = 9", "put 0 9 1 = 10", "put 0 10 1 = 11", "put 0 11 1 = 12", "put 0 12 1 = 13",
            "put 0 13 1 = 14", "put 0 14 1 = 15", "put 0 15 1 = 16", "4* put 0 3 1 = 16", "put 0 ANY_CELL 1 = FULL");
        edgeOfPut("20 writes: each transaction has its own", "begin 0 = 0", "begin 1 = 1", "begin 2 = 2",
            "20* put 1 5 1 = 1", "20* put 0 4 1 = 1", "20* put 2 6 1 = 1", "put 0 4 1 = FULL", "put 1 5 1 = FULL",
            "put 2 6 1 = FULL", "back 1 = 20", "abort 0 = 1", "crash = 2");
        edgeOfPut("20 writes: those that were taken back count, all at once", "begin 0 = 0", "20* put 0 3 1 = 1",
            "back 0 = 20", "put 0 3 1 = FULL");
        edgeOfPut("20 writes: those that were taken back count, here and there", "begin 0 = 0", "7* put 0 3 1 = 1",
            "back 0 = 7", "6* put 0 3 1 = 1", "mark 0 = 0", "6* put 0 4 1 = 2", "back 0 = 6", "put 0 3 1 = 2",
            "put 0 3 1 = FULL", "back 0 = 1", "put 0 3 1 = FULL");
        edgeOfEach("END", ENDS, "3 write, 4 add: 20 writes since it was begun", "begin 0 = 0", "10* write 0 3 1 = 1",
            "10* add 0 3 1 = 1", "END = 1", "begin 0 = 0", "10* write 0 3 1 = 1", "10* add 0 3 1 = 1",
            "write 0 3 1 = FULL", "add 0 3 1 = FULL");
        edgeOfPut("20 writes: those that were refused are not made", "begin 0 = 0", "begin 1 = 1", "put 1 4 1 = 1",
            "21* put 0 16 1 = BAD", "21* put 0 4 1 = HELD", "19* put 0 3 1 = 1", "put 0 16 1 = BAD", "put 0 4 1 = HELD",
            "put 0 3 1 = 1", "put 0 3 1 = FULL");
    }

    private static void putChangesNothing() {
        edgeOfPut("BAD: nothing changes", "begin 0 = 0", "put 0 3 5 = 1", "mark 0 = 0", "put 0 4 6 = 2", "put 0 NO_CELL 9 = BAD",
            "put NO_T 3 9 = BAD", "put NO_T 5 9 = BAD", "read 3 = 5", "read 4 = 6", "read 5 = 0", "holds 0 = 24", "holds 1 = 0",
            "holds 2 = 0", "checkpoint = 1", "back 0 = 1", "read 3 = 5", "18* put 0 3 1 = 2", "put 0 3 1 = FULL", "back 0 = 18",
            "abort 0 = 2", "read ANY_CELL = 0");
        edgeOfPut("IDLE: nothing changes", "begin 1 = 1", "21* put 0 3 9 = IDLE", "read 3 = 0", "holds 0 = 0", "checkpoint = 1",
            "put 1 3 5 = 1", "put 0 3 9 = IDLE", "read 3 = 5", "begin 0 = 0", "holds 0 = 0", "back 0 = 0",
            "20* put 0 4 1 = 1", "put 0 4 1 = FULL", "back 0 = 20");
        edgeOfPut("HELD: nothing changes", "begin 0 = 0", "begin 1 = 1", "put 1 3 5 = 1", "put 0 4 6 = 1", "mark 0 = 0",
            "put 0 3 9 = HELD", "read 3 = 5", "holds 0 = 16", "holds 1 = 8", "back 0 = 0", "put 0 4 1 = 1", "back 0 = 1",
            "18* put 0 4 1 = 1", "put 0 3 9 = HELD", "put 0 4 1 = FULL", "commit 1 = 1", "abort 0 = 1", "read 3 = 5", "read 4 = 0");
        edgeOfPut("FULL: nothing changes", "begin 0 = 0", "put 0 3 5 = 1", "mark 0 = 0", "19* put 0 3 0 = 1", "put 0 3 9 = FULL",
            "put 0 4 9 = FULL", "put 0 15 9 = FULL", "read 4 = 0", "read 15 = 0", "holds 0 = 8", "begin 1 = 1", "put 1 4 7 = 1",
            "back 0 = 19", "read 3 = 5", "put 0 3 9 = FULL", "read 3 = 5", "commit 0 = 1", "read 3 = 5", "crash = 1", "read 3 = 5");
    }

    private static void putAnswers() {
        edgeOfPut("answers the number of cells that t holds then, from 1 on", "begin 0 = 0", "begin 1 = 1", "put 1 9 1 = 1",
            "put 0 0 1 = 1", "put 0 0 1 = 1", "put 0 15 1 = 2", "put 0 0 1 = 2", "put 1 8 1 = 2", "put 0 7 1 = 3");
        edge("3 write: the value that the cell has already is a write, too", "begin 0 = 0", "write 0 3 0 = 1", "holds 0 = 8",
            "begin 1 = 1", "write 1 3 0 = HELD", "write 0 3 0 = 1", "back 0 = 2", "18* write 0 3 0 = 1", "write 0 3 0 = FULL");
        edge("4 add: of 0 is a write, too", "begin 0 = 0", "add 0 3 0 = 1", "holds 0 = 8", "begin 1 = 1", "add 1 3 0 = HELD",
            "add 0 3 0 = 1", "back 0 = 2", "18* add 0 3 0 = 1", "add 0 3 0 = FULL");
        edge("4 add: counts as a write, for write's FULL", "begin 0 = 0", "20* add 0 3 1 = 1", "write 0 3 9 = FULL", "read 3 = 20");
        edge("4 add: counts as a write, write for its FULL", "begin 0 = 0", "20* write 0 3 1 = 1", "add 0 3 9 = FULL", "read 3 = 1");
        edge("4 add: counts as a write, for back", "begin 0 = 0", "write 0 3 1 = 1", "add 0 3 2 = 1", "add 0 4 3 = 2", "back 0 = 3",
            "read 3 = 0", "read 4 = 0");
    }

    private static void addWraps() {
        edge("4 add: (wrapping), over the largest", "begin 0 = 0", "write 0 3 MAX = 1", "add 0 3 1 = 1", "read 3 = MIN");
        edge("4 add: (wrapping), under the smallest", "begin 0 = 0", "write 0 3 MIN = 1", "add 0 3 -1 = 1", "read 3 = MAX");
        edge("4 add: (wrapping), twice the smallest", "begin 0 = 0", "add 0 3 MIN = 1", "read 3 = MIN", "add 0 3 MIN = 1", "read 3 = 0");
        edge("4 add: (wrapping), twice the largest", "begin 0 = 0", "add 0 3 MAX = 1", "read 3 = MAX", "add 0 3 MAX = 1", "read 3 = -2");
        edge("4 add: (wrapping), not before the edge", "begin 0 = 0", "write 0 3 2147483646 = 1", "add 0 3 1 = 1", "read 3 = MAX",
            "write 0 4 -2147483647 = 2", "add 0 4 -1 = 2", "read 4 = MIN", "add 0 4 MAX = 2", "read 4 = -1");
        edge("4 add: (wrapping), and taken back", "begin 0 = 0", "write 0 3 MAX = 1", "mark 0 = 0", "add 0 3 MAX = 1", "back 0 = 1",
            "read 3 = MAX", "add 0 3 1 = 1", "commit 0 = 1", "read 3 = MIN");
        edge("4 add: the sum of its value, which taken back writes are no part of", "begin 0 = 0", "add 0 3 5 = 1", "mark 0 = 0",
            "add 0 3 100 = 1", "back 0 = 1", "add 0 3 2 = 1", "read 3 = 7", "crash = 1", "begin 1 = 1", "add 1 3 1 = 1", "read 3 = 1");
    }

    private static void order() {
        edgeOfPut("14: BAD before IDLE", "put 0 16 1 = BAD", "put 2 -1 1 = BAD", "begin 1 = 1", "put 0 NO_CELL 1 = BAD");
        edgeOfPut("14: BAD before HELD", "begin 0 = 0", "put 0 3 1 = 1", "put NO_T 3 1 = BAD");
        edgeOfPut("14: BAD before FULL", "begin 0 = 0", "20* put 0 3 1 = 1", "put 0 NO_CELL 1 = BAD", "put NO_T 3 1 = BAD");
        edgeOfPut("14: IDLE before HELD", "begin 0 = 0", "put 0 3 1 = 1", "put 1 3 1 = IDLE", "put 2 3 1 = IDLE");
        edgeOfPut("14: IDLE before FULL", "begin 0 = 0", "20* put 0 3 1 = 1", "commit 0 = 1", "put 0 3 1 = IDLE",
            "begin 0 = 0", "20* put 0 3 1 = 1", "abort 0 = 1", "put 0 3 1 = IDLE",
            "begin 0 = 0", "20* put 0 3 1 = 1", "crash = 1", "put 0 3 1 = IDLE");
        edgeOfPut("14: HELD before FULL", "begin 0 = 0", "begin 1 = 1", "put 1 3 1 = 1", "20* put 0 4 1 = 1", "put 0 3 1 = HELD",
            "put 0 4 1 = FULL", "put 0 5 1 = FULL", "back 1 = 1", "put 0 3 1 = HELD", "commit 1 = 1", "put 0 3 1 = FULL");
    }

    // ---- Promise 5 ----

    private static void read() {
        edge("5: 0 for cell outside 0..15", "begin 0 = 0", "write 0 ANY_CELL 7 = ANY_CELL+1", "read NO_CELL = 0", "read ANY_CELL = 7",
            "commit 0 = 16", "read NO_CELL = 0", "read ANY_CELL = 7");
        edge("5: the value of a cell, also before the end of who wrote it", "begin 0 = 0", "write 0 0 7 = 1", "write 0 15 8 = 2",
            "read 0 = 7", "read 15 = 8", "abort 0 = 2", "read 0 = 0", "read 15 = 0");
    }

    // ---- Promises 6 and 7 ----

    private static void commit() {
        edge("6: t outside 0..2: BAD", "commit NO_T = BAD", "begin 0 = 0", "begin 1 = 1", "begin 2 = 2", "write 0 3 1 = 1",
            "commit NO_T = BAD", "checkpoint = 3", "holds 0 = 8", "crash = 3", "read 3 = 0");
        edge("6: it is idle: IDLE, never begun", "begin 1 = 1", "write 1 3 1 = 1", "commit 0 = IDLE", "commit 2 = IDLE",
            "holds 1 = 8", "abort 1 = 1", "read 3 = 0");
        edgeOfEach("END", ENDS, "6: it is idle: IDLE, after its end", "begin 0 = 0", "write 0 3 1 = 1", "END = 1", "commit 0 = IDLE");
        edge("6: answers the number of cells that it held, none", "begin 0 = 0", "commit 0 = 0", "begin 1 = 1", "read 3 = 0",
            "commit 1 = 0");
        edge("6: answers the number of cells that it held, one of many writes", "begin 0 = 0", "20* write 0 3 1 = 1", "commit 0 = 1");
        edge("6: answers the number of cells that it held, all", "begin 0 = 0", "write 0 ANY_CELL 1 = ANY_CELL+1", "commit 0 = 16");
        edgeOfEach("CRASH", CRASHES, "6: its writes stay for good, after a crash", "begin 0 = 0", "begin 1 = 1", "write 1 4 1 = 1",
            "write 0 3 1 = 1", "write 0 3 2 = 1", "commit 0 = 1", "CRASH = 1", "read 3 = 2", "CRASH = 0", "read 3 = 2", "read 4 = 0");
        edge("6: its writes stay for good, after later ones are taken back", "begin 0 = 0", "write 0 3 1 = 1", "commit 0 = 1",
            "begin 0 = 0", "back 0 = 0", "write 0 3 2 = 1", "abort 0 = 1", "read 3 = 1", "begin 1 = 1", "write 1 3 3 = 1", "back 1 = 1",
            "read 3 = 1", "commit 1 = 1", "read 3 = 1");
        edge("6: its writes stay for good, not those that were taken back", "begin 0 = 0", "write 0 3 1 = 1", "mark 0 = 0",
            "write 0 3 2 = 1", "write 0 4 3 = 2", "back 0 = 2", "commit 0 = 2", "read 3 = 1", "read 4 = 0");
        edge("6: it is idle then, and no other", "begin 0 = 0", "begin 1 = 1", "begin 2 = 2", "write 1 3 1 = 1", "write 2 4 1 = 1",
            "commit 1 = 1", "checkpoint = 2", "begin 0 = HELD", "begin 2 = HELD", "begin 1 = 1", "holds 2 = 16");
    }

    private static void abort() {
        edge("7: t outside 0..2: BAD", "abort NO_T = BAD", "begin 0 = 0", "begin 1 = 1", "begin 2 = 2", "write 0 3 1 = 1",
            "abort NO_T = BAD", "checkpoint = 3", "holds 0 = 8", "read 3 = 1");
        edge("7: it is idle: IDLE, never begun", "begin 1 = 1", "write 1 3 1 = 1", "abort 0 = IDLE", "abort 2 = IDLE", "read 3 = 1",
            "holds 1 = 8");
        edgeOfEach("END", ENDS, "7: it is idle: IDLE, after its end", "begin 0 = 0", "write 0 3 1 = 1", "END = 1", "abort 0 = IDLE");
        edge("7: it is idle: IDLE, and what it committed stays", "begin 0 = 0", "write 0 3 1 = 1", "commit 0 = 1", "abort 0 = IDLE",
            "read 3 = 1");
        edge("7: answers the number of cells that it held, none", "begin 0 = 0", "abort 0 = 0", "begin 1 = 1", "read 3 = 0",
            "abort 1 = 0");
        edge("7: answers the number of cells that it held, one of many writes", "begin 0 = 0", "20* write 0 3 1 = 1", "abort 0 = 1");
        edge("7: answers the number of cells that it held, all", "begin 0 = 0", "write 0 ANY_CELL 1 = ANY_CELL+1", "abort 0 = 16",
            "read ANY_CELL = 0");
        edge("7: takes all writes back, those before the mark, too", "begin 0 = 0", "write 0 3 1 = 1", "mark 0 = 0", "write 0 4 2 = 2",
            "mark 0 = 0", "abort 0 = 2", "read 3 = 0", "read 4 = 0");
        edge("7: takes all writes back, after a back", "begin 0 = 0", "write 0 3 1 = 1", "commit 0 = 1", "begin 0 = 0", "write 0 3 2 = 1",
            "mark 0 = 0", "write 0 3 3 = 1", "back 0 = 1", "abort 0 = 1", "read 3 = 1");
        edge("7: takes all writes of transaction t back, and no other's", "begin 0 = 0", "begin 1 = 1", "begin 2 = 2", "write 0 3 1 = 1",
            "write 1 4 2 = 1", "write 2 5 3 = 1", "abort 1 = 1", "read 3 = 1", "read 4 = 0", "read 5 = 3", "checkpoint = 2",
            "begin 1 = 1", "begin 0 = HELD", "begin 2 = HELD");
    }

    // ---- Promises 8 and 9 ----

    private static void mark() {
        edge("8: t outside 0..2: BAD", "mark NO_T = BAD", "begin 0 = 0", "begin 1 = 1", "begin 2 = 2", "write 0 3 1 = 1",
            "write 1 4 1 = 1", "write 2 5 1 = 1", "mark NO_T = BAD", "back 0 = 1", "back 1 = 1", "back 2 = 1");
        edge("8: it is idle: IDLE, never begun", "begin 1 = 1", "write 1 3 1 = 1", "mark 0 = IDLE", "mark 2 = IDLE", "back 1 = 1");
        edgeOfEach("END", ENDS, "8: it is idle: IDLE, after its end", "begin 0 = 0", "write 0 3 1 = 1", "END = 1", "mark 0 = IDLE",
            "begin 0 = 0", "write 0 4 1 = 1", "back 0 = 1");
        edge("8: else answers t", "begin 0 = 0", "begin 1 = 1", "begin 2 = 2", "mark 0 = 0", "mark 1 = 1", "mark 2 = 2", "mark 2 = 2");
        edge("8: where it is now, right after begin", "begin 0 = 0", "mark 0 = 0", "write 0 3 1 = 1", "back 0 = 1", "read 3 = 0");
        edge("8: where it is now, and no longer where it was", "begin 0 = 0", "write 0 3 1 = 1", "mark 0 = 0", "write 0 3 2 = 1",
            "mark 0 = 0", "write 0 3 3 = 1", "back 0 = 1", "read 3 = 2", "back 0 = 0", "read 3 = 2");
        edge("8: where it is now, after a back", "begin 0 = 0", "write 0 3 1 = 1", "write 0 3 2 = 1", "back 0 = 2", "mark 0 = 0",
            "write 0 3 3 = 1", "mark 0 = 0", "write 0 3 4 = 1", "back 0 = 1", "read 3 = 3");
        edge("8: where it is now, after all 20 writes", "begin 0 = 0", "20* add 0 3 1 = 1", "mark 0 = 0", "back 0 = 0", "read 3 = 20",
            "write 0 3 1 = FULL", "back 0 = 0", "abort 0 = 1", "read 3 = 0");
        edge("8: the mark of transaction t, and no other's", "begin 0 = 0", "begin 1 = 1", "begin 2 = 2", "write 0 3 1 = 1",
            "write 1 4 2 = 1", "write 2 5 3 = 1", "mark 1 = 1", "back 0 = 1", "back 1 = 0", "back 2 = 1");
    }

    private static void back() {
        edge("9: t outside 0..2: BAD", "back NO_T = BAD", "begin 0 = 0", "begin 1 = 1", "begin 2 = 2", "write 0 3 1 = 1",
            "write 1 4 2 = 1", "write 2 5 3 = 1", "back NO_T = BAD", "read 3 = 1", "read 4 = 2", "read 5 = 3");
        edge("9: it is idle: IDLE, never begun", "begin 1 = 1", "write 1 3 1 = 1", "back 0 = IDLE", "back 2 = IDLE", "read 3 = 1");
        edgeOfEach("END", ENDS, "9: it is idle: IDLE, after its end", "begin 0 = 0", "write 0 3 1 = 1", "END = 1", "back 0 = IDLE");
        edge("9: it is idle: IDLE, and what it committed stays", "begin 0 = 0", "write 0 3 1 = 1", "commit 0 = 1", "back 0 = IDLE",
            "read 3 = 1");
        edge("9: answers how many writes were taken back, none", "begin 0 = 0", "back 0 = 0", "write 0 3 1 = 1", "mark 0 = 0",
            "back 0 = 0", "read 3 = 1");
        edge("9: answers how many writes were taken back, not cells", "begin 0 = 0", "write 0 3 1 = 1", "write 0 3 2 = 1",
            "write 0 4 3 = 2", "back 0 = 3");
        edge("9: answers how many writes were taken back, all 20", "begin 0 = 0", "20* add 0 3 1 = 1", "back 0 = 20", "read 3 = 0");
        edge("9: (and not taken back yet), twice in a row", "begin 0 = 0", "write 0 3 1 = 1", "write 0 3 2 = 1", "back 0 = 2",
            "back 0 = 0", "read 3 = 0");
        edge("9: (and not taken back yet), with a write between", "begin 0 = 0", "write 0 3 1 = 1", "mark 0 = 0", "write 0 3 2 = 1",
            "write 0 4 3 = 2", "back 0 = 2", "write 0 4 4 = 2", "back 0 = 1", "read 3 = 1", "read 4 = 0");
        edge("9: (and not taken back yet), then an abort", "begin 0 = 0", "write 0 3 1 = 1", "back 0 = 1", "abort 0 = 1", "begin 1 = 1",
            "write 1 3 5 = 1", "commit 1 = 1", "crash = 0", "read 3 = 5");
        edge("9: since its mark, which stays where it is", "begin 0 = 0", "write 0 3 1 = 1", "mark 0 = 0", "write 0 3 2 = 1",
            "back 0 = 1", "write 0 3 3 = 1", "write 0 3 4 = 1", "back 0 = 2", "read 3 = 1", "abort 0 = 1", "read 3 = 0");
        edge("9: the writes that transaction t has made, and no other's", "begin 0 = 0", "begin 1 = 1", "begin 2 = 2", "write 0 3 1 = 1",
            "write 1 4 2 = 1", "write 2 5 3 = 1", "back 1 = 1", "read 3 = 1", "read 4 = 0", "read 5 = 3", "checkpoint = 3");
    }

    // ---- Promises 10 to 13 ----

    private static void crashes() {
        edgeOfEach("CRASH", CRASHES, "10, 11: how many transactions were running, none", "CRASH = 0", "read ANY_CELL = 0", "CRASH = 0");
        edgeOfEach("CRASH", CRASHES, "10, 11: how many transactions were running, one without a write", "begin 2 = 2", "CRASH = 1",
            "CRASH = 0");
        edgeOfEach("CRASH", CRASHES, "10, 11: how many transactions were running, two", "begin 0 = 0", "begin 1 = 1", "begin 2 = 2",
            "commit 1 = 0", "CRASH = 2", "CRASH = 0");
        edgeOfEach("CRASH", CRASHES, "10, 11: how many transactions were running, all", "begin 2 = 2", "begin 1 = 1", "begin 0 = 0",
            "write 0 3 1 = 1", "write 1 4 2 = 1", "write 2 5 3 = 1", "CRASH = 3", "read 3 = 0", "read 4 = 0", "read 5 = 0", "CRASH = 0");
        edgeOfEach("CRASH", CRASHES, "10, 11: a crash after one, with new writes", "begin 0 = 0", "write 0 3 1 = 1", "CRASH = 1",
            "begin 1 = 1", "write 1 3 2 = 1", "commit 1 = 1", "begin 0 = 0", "write 0 3 3 = 1", "CRASH = 1", "read 3 = 2");
        edgeOfEach("CRASH", CRASHES, "10, 11: a crash of 20 writes of each", "begin 0 = 0", "begin 1 = 1", "begin 2 = 2",
            "20* add 0 3 1 = 1", "20* add 1 4 1 = 1", "20* add 2 5 1 = 1", "CRASH = 3", "read 3 = 0", "read 4 = 0", "read 5 = 0");
        edgeOfEach("CRASH", CRASHES, "10, 11: a crash after a back does not take back twice", "begin 0 = 0", "write 0 3 1 = 1",
            "commit 0 = 1", "begin 0 = 0", "write 0 3 2 = 1", "back 0 = 1", "CRASH = 1", "read 3 = 1");
    }

    private static void steps() {
        for (int steps = -3; steps <= 43; steps++) {
            stepsShowInNoAnswer(steps);
        }
        stepsShowInNoAnswer(MIN);
        stepsShowInNoAnswer(MAX);
    }

    private static void stepsShowInNoAnswer(int steps) {
        edge("11: steps, clamped into 0..40, shows in no answer (" + steps + ")", replaced("STEPS", String.valueOf(steps),
            "begin 0 = 0", "begin 1 = 1", "write 0 0 1 = 1", "write 1 15 2 = 1", "checkpoint = 2", "write 0 4 3 = 2",
            "commit 1 = 1", "mark 0 = 0", "write 0 0 4 = 2", "write 0 8 5 = 3", "back 0 = 2", "begin 1 = 1", "write 1 15 6 = 1",
            "begin 2 = 2", "19* add 2 12 1 = 1", "crashTwice STEPS = 3", "read 0 = 0", "read 4 = 0", "read 8 = 0", "read 12 = 0",
            "read 15 = 2", "holds ANY_T = 0", "begin 0 = 0", "write 0 15 7 = 1", "crashTwice STEPS = 1", "read 15 = 2",
            "crashTwice STEPS = 0", "read 15 = 2", "checkpoint = 0"));
    }

    private static void checkpoint() {
        edge("12: the number of running transactions, none to all", "checkpoint = 0", "begin 1 = 1", "checkpoint = 1", "begin 0 = 0",
            "checkpoint = 2", "begin 2 = 2", "checkpoint = 3", "begin 2 = HELD", "checkpoint = 3");
        edgeOfEach("END", ENDS, "12: the number of running transactions, after an end", "begin 0 = 0", "write 0 3 1 = 1", "checkpoint = 1",
            "END = 1", "checkpoint = 0", "begin 0 = 0", "checkpoint = 1");
        for (int frames : FRAMES) {
            run("12: nothing that can be seen changes (" + frames + ")", frames, withCheckpoints(unfold(MIXED)));
        }
    }

    // A checkpoint after every call; which answer is due there is counted along.
    private static List<String> withCheckpoints(List<String> rows) {
        List<String> more = new ArrayList<>();
        int running = 0;
        for (String row : rows) {
            String verb = row.split(" ")[0];
            boolean refused = row.matches(".* = (BAD|IDLE|HELD|FULL)");
            if (verb.startsWith("crash")) {
                running = 0;
            } else if (!refused) {
                running += verb.equals("begin") ? 1 : verb.equals("commit") || verb.equals("abort") ? -1 : 0;
            }
            more.add(row);
            more.add("checkpoint = " + running);
        }
        return more;
    }

    private static void holds() {
        edge("13: BAD for t outside 0..2", "holds NO_T = BAD", "begin 0 = 0", "begin 1 = 1", "begin 2 = 2", "write 0 3 1 = 1",
            "holds NO_T = BAD");
        edge("13: 0 if it is idle, never begun", "begin 1 = 1", "write 1 3 1 = 1", "holds 0 = 0", "holds 2 = 0");
        edgeOfEach("END", ENDS, "13: 0 if it is idle, after its end", "begin 0 = 0", "write 0 3 1 = 1", "END = 1", "holds 0 = 0");
        edge("13: the cells that transaction t holds, none", "begin 0 = 0", "holds 0 = 0");
        edge("13: bit c speaks of cell c, the first and the last", "begin 0 = 0", "begin 1 = 1", "write 0 0 1 = 1", "holds 0 = 1",
            "write 1 15 1 = 1", "holds 1 = 32768", "write 0 0 2 = 1", "holds 0 = 1");
        edge("13: bit c speaks of cell c, all", "begin 0 = 0", "write 0 ANY_CELL 1 = ANY_CELL+1", "holds 0 = ALL", "holds 1 = 0",
            "back 0 = 16", "holds 0 = ALL");
    }

    public static void main(String[] args) {
        calls();
        cellsAndTransactions();
        holding();
        markAndValue();
        newObject();
        begin();
        putRefused();
        putFull();
        putChangesNothing();
        putAnswers();
        addWraps();
        order();
        read();
        commit();
        abort();
        mark();
        back();
        crashes();
        steps();
        checkpoint();
        holds();
        System.out.println(wrong == 0 ? cases + " cases, all answers are as due" : wrong + " answers are not as due");
        if (wrong != 0) {
            System.exit(1);
        }
    }
}
