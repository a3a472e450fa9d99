/**
 * A data grid: five members keep entries in six partitions, with backup copies; clients send tasks,
 * little programs that look at one entry and change it, and send them again when no answer came.
 *
 * All copies of a partition are alike whenever no call is running, so its entries and records are
 * held once, beside the list of the members that hold them.
 */
public final class TaskGrid {
    public static final int OK = 0, FAILED = 1, FORCED = 2, NO_TASK = 3, NO_MEMBER = 4, LOST = 5, BAD = -1, TOO_LONG = 16;

    private static final int MEMBERS = 5;
    private static final int PARTITIONS = 6;
    private static final int KEYS = 18;
    private static final int CLIENTS = 3;
    private static final int RECORDS = PARTITIONS * CLIENTS;
    private static final int MAX_BACKUPS = 2;
    private static final int MAX_COPIES = 1 + MAX_BACKUPS;

    private static final int TASKS = 4;
    private static final int PROGRAM = 16;
    private static final int INSTRUCTIONS = TASKS * PROGRAM;
    private static final int MAX_HEIGHT = 4;
    private static final int HEIGHTS = MAX_HEIGHT + 1;
    private static final int PAIRS = PROGRAM * HEIGHTS;
    private static final int NO_FIT = -1;
    private static final int FAULTY = 16;
    private static final int MAX_RUN = 80;

    private static final int PUSH = 0, OLD = 1, HAS = 2, ARG = 3;
    private static final int ADD = 4, SUB = 5, MUL = 6, DIV = 7, REM = 8, AND = 9, XOR = 10;
    private static final int SHL = 11, SHR = 12, USHR = 13, LESS = 14;
    private static final int DUP = 15, SWAP = 16, DROP = 17, PUT = 18, REMOVE = 19;
    private static final int JUMP = 20, ZERO = 21, FAIL = 22, END = 23;

    // These stand where the number of the next instruction would.
    private static final int DONE = -1, FAILS = -2;

    private static final int NO_FAULT = 0, REQUEST_LOST = 1, OWNER_GONE_BEFORE = 2, OWNER_GONE_AFTER = 3, ANSWER_LOST = 4;

    // A list of members is one number, so that lists are compared as numbers: three bits for each
    // place, the owner's lowest, with the member plus 1 in them, or 0 behind the last member.
    private static final int PLACE_BITS = 3, PLACE_MASK = 7;

    private final int backups;
    private int liveSet = 0;
    private final int[] lists = new int[PARTITIONS];
    private final boolean[] entryThere = new boolean[KEYS];
    private final long[] entryValue = new long[KEYS];

    // The record of a client in a partition is at partition * CLIENTS + client; number 0: no record.
    private final int[] recordNumber = new int[RECORDS];
    private final int[] recordCode = new int[RECORDS];
    private final long[] recordResult = new long[RECORDS];

    private int draftSize = 0;
    private final int[] draftOp = new int[PROGRAM];
    private final long[] draftC = new long[PROGRAM];

    // Instruction i of task t is at t * PROGRAM + i; size 0: no such task.
    private final int[] taskSize = new int[TASKS];
    private final int[] taskOp = new int[INSTRUCTIONS];
    private final long[] taskC = new long[INSTRUCTIONS];

    // The pair (instruction i, height d) is at i * HEIGHTS + d.
    private final boolean[] reached = new boolean[PAIRS];

    // The latest request of each client; number 0: no request.
    private final int[] requestNumber = new int[CLIENTS];
    private final int[] requestTask = new int[CLIENTS];
    private final int[] requestKey = new int[CLIENTS];
    private final int[] requestArg = new int[CLIENTS];
    private final boolean[] requestAnswered = new boolean[CLIENTS];
    private final long[] clientResult = new long[CLIENTS];

    private int faultKind = NO_FAULT;
    private int lostCount = 0;
    private int executedCount = 0;

    // The run of a task: its stack, its view of the entry, and how it ended.
    private final long[] stack = new long[MAX_HEIGHT];
    private int height = 0;
    private boolean viewThere = false;
    private long viewValue = 0;
    private int runCode = OK;
    private long runResult = 0;

    public TaskGrid(int backups) {
        this.backups = backups < 0 ? 0 : backups > MAX_BACKUPS ? MAX_BACKUPS : backups;
    }

    public boolean code(int op, long c) {
        if (op < PUSH || op > END || draftSize >= PROGRAM) {
            return false;
        }
        draftOp[draftSize] = op;
        draftC[draftSize] = c;
        draftSize++;
        return true;
    }

    public int deploy(int t) {
        int answer = BAD;
        if (t >= 0 && t < TASKS && draftSize > 0) {
            findReached();
            int faulty = leastFaulty();
            if (faulty < draftSize) {
                answer = FAULTY + faulty;
            } else {
                takeDraft(t);
                answer = OK;
            }
        }
        draftSize = 0;
        return answer;
    }

    public boolean join(int m) {
        if (!isMember(m) || isIn(liveSet, m)) {
            return false;
        }
        liveSet |= 1 << m;
        for (int p = 0; p < PARTITIONS; p++) {
            if (lists[p] == 0) {
                lists[p] = aloneList(m);
            }
        }
        return true;
    }

    public boolean crash(int m) {
        if (!isMember(m) || !isIn(liveSet, m)) {
            return false;
        }
        dropOut(m);
        return true;
    }

    public boolean leave(int m) {
        if (!isMember(m) || !isIn(liveSet, m)) {
            return false;
        }
        int others = liveSet & ~(1 << m);
        if (others != 0) {
            handOver(m, others);
        }
        dropOut(m);
        return true;
    }

    public int migrate() {
        for (int p = 0; p < PARTITIONS; p++) {
            int wanted = wantedList(p, liveSet);
            if (lists[p] != wanted) {
                lists[p] = wanted;
                return p;
            }
        }
        return -1;
    }

    public boolean fault(int kind) {
        if (kind < NO_FAULT || kind > ANSWER_LOST) {
            return false;
        }
        faultKind = kind;
        return true;
    }

    public int submit(int client, int task, int key, int arg) {
        if (!isClient(client) || !isKey(key)) {
            return BAD;
        }
        requestNumber[client]++;
        requestTask[client] = task;
        requestKey[client] = key;
        requestArg[client] = arg;
        requestAnswered[client] = false;
        return send(client);
    }

    public int retry(int client) {
        if (!isClient(client) || requestNumber[client] == 0 || requestAnswered[client]) {
            return BAD;
        }
        return send(client);
    }

    public long result(int client) {
        return isClient(client) ? clientResult[client] : 0;
    }

    public boolean present(int m, int key) {
        return holdsEntry(m, key);
    }

    public long value(int m, int key) {
        return holdsEntry(m, key) ? entryValue[key] : 0;
    }

    public int owner(int p) {
        return isPartition(p) ? memberAt(lists[p], 0) : -1;
    }

    public int copies(int p) {
        return isPartition(p) ? setOf(lists[p]) : 0;
    }

    public int lost() {
        return lostCount;
    }

    public int executed() {
        return executedCount;
    }

    private static boolean isMember(int m) {
        return m >= 0 && m < MEMBERS;
    }

    private static boolean isPartition(int p) {
        return p >= 0 && p < PARTITIONS;
    }

    private static boolean isKey(int key) {
        return key >= 0 && key < KEYS;
    }

    private static boolean isClient(int client) {
        return client >= 0 && client < CLIENTS;
    }

    private static boolean isIn(int set, int m) {
        return (set >> m & 1) == 1;
    }

    private boolean holdsEntry(int m, int key) {
        if (!isMember(m) || !isKey(key)) {
            return false;
        }
        int holders = setOf(lists[key % PARTITIONS]);
        return isIn(holders, m) && entryThere[key];
    }

    // Lists of members.

    private static int memberAt(int list, int place) {
        return (list >> place * PLACE_BITS & PLACE_MASK) - 1;
    }

    private static int withMemberAt(int list, int place, int m) {
        return list | m + 1 << place * PLACE_BITS;
    }

    private static int aloneList(int m) {
        return m + 1;
    }

    private static int setOf(int list) {
        int set = 0;
        for (int place = 0; place < MAX_COPIES; place++) {
            int m = memberAt(list, place);
            if (m >= 0) {
                set |= 1 << m;
            }
        }
        return set;
    }

    private static int listWithout(int list, int m) {
        int rest = 0;
        int size = 0;
        for (int place = 0; place < MAX_COPIES; place++) {
            int other = memberAt(list, place);
            if (other >= 0 && other != m) {
                rest = withMemberAt(rest, size, other);
                size++;
            }
        }
        return rest;
    }

    private int wantedList(int p, int live) {
        int list = 0;
        int size = 0;
        for (int i = 0; i < MEMBERS; i++) {
            int m = (p + i) % MEMBERS;
            if (isIn(live, m) && size <= backups) {
                list = withMemberAt(list, size, m);
                size++;
            }
        }
        return list;
    }

    private static int firstAlone(int list) {
        return list & PLACE_MASK;
    }

    // Members that go.

    private void handOver(int m, int others) {
        int alone = aloneList(m);
        for (int p = 0; p < PARTITIONS; p++) {
            if (lists[p] == alone) {
                int wanted = wantedList(p, others);
                lists[p] = firstAlone(wanted);
            }
        }
    }

    private void dropOut(int m) {
        liveSet &= ~(1 << m);
        for (int p = 0; p < PARTITIONS; p++) {
            lists[p] = listWithout(lists[p], m);
            if (lists[p] == 0) {
                losePartition(p);
            }
        }
    }

    private void losePartition(int p) {
        lostCount++;
        for (int key = p; key < KEYS; key += PARTITIONS) {
            entryThere[key] = false;
            entryValue[key] = 0;
        }
        for (int client = 0; client < CLIENTS; client++) {
            recordNumber[p * CLIENTS + client] = 0;
        }
        int wanted = wantedList(p, liveSet);
        lists[p] = firstAlone(wanted);
    }

    // The check of the draft.

    /** The least faulty instruction of the draft by the pairs reached; the draft's size if there is none. */
    private int leastFaulty() {
        for (int i = 0; i < draftSize; i++) {
            if (isFaulty(i)) {
                return i;
            }
        }
        return draftSize;
    }

    private void findReached() {
        for (int pair = 0; pair < PAIRS; pair++) {
            reached[pair] = false;
        }
        reached[0] = true;
        // A round that adds no pair is the last that could; so as many rounds as pairs are enough.
        for (int round = 0; round < PAIRS; round++) {
            for (int pair = 0; pair < PAIRS; pair++) {
                if (reached[pair]) {
                    reachNext(pair / HEIGHTS, pair % HEIGHTS);
                }
            }
        }
    }

    private void reachNext(int i, int d) {
        int op = draftOp[i];
        int e = heightAfter(op, d);
        if (op == FAIL || op == END || e == NO_FIT) {
            return;
        }
        if (op != JUMP) {
            reach(i + 1, e);
        }
        if (op == JUMP || op == ZERO) {
            reach(draftC[i], e);
        }
    }

    private void reach(long n, int e) {
        if (isInDraft(n) && e >= 0 && e <= MAX_HEIGHT) {
            reached[(int) n * HEIGHTS + e] = true;
        }
    }

    private boolean isInDraft(long n) {
        return n >= 0 && n < draftSize;
    }

    private boolean isFaulty(int i) {
        int heights = 0;
        for (int d = 0; d < HEIGHTS; d++) {
            if (reached[i * HEIGHTS + d]) {
                heights++;
                if (heightAfter(draftOp[i], d) == NO_FIT) {
                    return true;
                }
            }
        }
        return heights > 1 || heights == 1 && mayRunOut(i);
    }

    private boolean mayRunOut(int i) {
        int op = draftOp[i];
        if (op == FAIL || op == END) {
            return false;
        }
        boolean jumpsOut = (op == JUMP || op == ZERO) && !isInDraft(draftC[i]);
        boolean fallsOut = op != JUMP && !isInDraft(i + 1);
        return jumpsOut || fallsOut;
    }

    /** The height after op at height d; NO_FIT if op takes more than d or leaves more than the stack may hold. */
    private static int heightAfter(int op, int d) {
        int taken = takenBy(op);
        int after = d - taken + givenBy(op);
        return d < taken || after > MAX_HEIGHT ? NO_FIT : after;
    }

    private static int takenBy(int op) {
        if (isBinary(op) || op == SWAP) {
            return 2;
        }
        boolean takesOne = op == DUP || op == DROP || op == PUT || op == ZERO || op == END;
        return takesOne ? 1 : 0;
    }

    private static int givenBy(int op) {
        if (op == DUP || op == SWAP) {
            return 2;
        }
        boolean givesOne = op <= ARG || isBinary(op);
        return givesOne ? 1 : 0;
    }

    private static boolean isBinary(int op) {
        return op >= ADD && op <= LESS;
    }

    private void takeDraft(int t) {
        for (int i = 0; i < PROGRAM; i++) {
            taskOp[t * PROGRAM + i] = draftOp[i];
            taskC[t * PROGRAM + i] = draftC[i];
        }
        taskSize[t] = draftSize;
    }

    // Sending a request.

    private int send(int client) {
        int kind = faultKind;
        faultKind = NO_FAULT;
        if (liveSet == 0) {
            return NO_MEMBER;
        }
        if (kind == REQUEST_LOST) {
            return LOST;
        }
        int key = requestKey[client];
        int partition = key % PARTITIONS;
        int record = partition * CLIENTS + client;
        int owner = memberAt(lists[partition], 0);
        boolean isNew = recordNumber[record] != requestNumber[client];
        if (isNew) {
            execute(requestTask[client], key, requestArg[client]);
        }
        if (kind == OWNER_GONE_BEFORE) {
            dropOut(owner);
            return LOST;
        }
        if (isNew) {
            changeCopies(key, record, requestNumber[client]);
        }
        if (kind == OWNER_GONE_AFTER) {
            dropOut(owner);
            return LOST;
        }
        if (kind == ANSWER_LOST) {
            return LOST;
        }
        requestAnswered[client] = true;
        clientResult[client] = recordResult[record];
        return recordCode[record];
    }

    private void changeCopies(int key, int record, int number) {
        if (runCode == OK) {
            entryThere[key] = viewThere;
            entryValue[key] = viewValue;
        }
        recordNumber[record] = number;
        recordCode[record] = runCode;
        recordResult[record] = runResult;
    }

    // Running a task.

    /** Works on a view alone, so that an owner that goes before the copies change leaves no trace of it. */
    private void execute(int task, int key, int arg) {
        executedCount++;
        runResult = 0;
        if (task < 0 || task >= TASKS || taskSize[task] == 0) {
            runCode = NO_TASK;
            return;
        }
        viewThere = entryThere[key];
        viewValue = entryValue[key];
        height = 0;
        int next = 0;
        for (int ran = 0; ran < MAX_RUN && next >= 0 && next < taskSize[task]; ran++) {
            next = runInstruction(task, next, arg);
        }
        runCode = next == DONE ? OK : next == FAILS ? FAILED : FORCED;
    }

    /** Answers the number of the next instruction, DONE or FAILS. */
    private int runInstruction(int task, int i, int arg) {
        int op = taskOp[task * PROGRAM + i];
        long c = taskC[task * PROGRAM + i];
        if (isBinary(op)) {
            return runBinary(op, i + 1);
        }
        switch (op) {
            case JUMP:
                return (int) c;
            case ZERO:
                return pop() == 0 ? (int) c : i + 1;
            case FAIL:
                return FAILS;
            case END:
                runResult = pop();
                return DONE;
            default:
                runPlain(op, c, arg);
                return i + 1;
        }
    }

    private int runBinary(int op, int next) {
        long y = pop();
        long x = pop();
        if (op == DIV || op == REM) {
            if (y == 0) {
                return FAILS;
            }
            push(op == DIV ? x / y : x % y);
            return next;
        }
        long z = combined(op, x, y);
        push(z);
        return next;
    }

    /** Runs an instruction that neither fails nor goes elsewhere than to the next one. */
    private void runPlain(int op, long c, int arg) {
        long top;
        switch (op) {
            case PUSH:
                push(c);
                break;
            case OLD:
                push(viewValue);
                break;
            case HAS:
                push(viewThere ? 1 : 0);
                break;
            case ARG:
                push(arg);
                break;
            case DUP:
                top = pop();
                push(top);
                push(top);
                break;
            case SWAP:
                top = pop();
                long below = pop();
                push(top);
                push(below);
                break;
            case DROP:
                pop();
                break;
            case PUT:
                viewThere = true;
                viewValue = pop();
                break;
            default: // REMOVE; OLD pushes 0 for an entry that is not there
                viewThere = false;
                viewValue = 0;
        }
    }

    private static long combined(int op, long x, long y) {
        switch (op) {
            case ADD:
                return x + y;
            case SUB:
                return x - y;
            case MUL:
                return x * y;
            case AND:
                return x & y;
            case XOR:
                return x ^ y;
            case SHL:
                return x << y;
            case SHR:
                return x >> y;
            case USHR:
                return x >>> y;
            default: // LESS
                return x < y ? 1 : 0;
        }
    }

    // A deployed program keeps within the stack; the looks at the height make that plain here too.

    private void push(long top) {
        if (height >= 0 && height < MAX_HEIGHT) {
            stack[height] = top;
            height++;
        }
    }

    private long pop() {
        if (height <= 0 || height > MAX_HEIGHT) {
            return 0;
        }
        height--;
        return stack[height];
    }
}
