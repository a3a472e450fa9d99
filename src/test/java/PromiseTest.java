// For each promise of the document: ordinary inputs, the edges it names, and wrong inputs.
public final class PromiseTest extends Check {
    private static final int[] OUTSIDE = {Integer.MIN_VALUE, -2, -1, 24, 32, 1 << 30, Integer.MAX_VALUE};

    private static String test = "";

    private static void due(String call, long want, long got) {
        if (got != want) {
            report(test + ": " + call + " answered " + got + ", due is " + want);
        }
    }

    private static void due(String call, boolean want, boolean got) {
        due(call, want ? 1 : 0, got ? 1 : 0);
    }

    /** Writes the draft from op, c, op, c, .. and deploys it. */
    private static int deploy(Grid x, int t, long... opsAndCs) {
        for (int i = 0; i < opsAndCs.length; i += 2) {
            due("code(" + opsAndCs[i] + ", " + opsAndCs[i + 1] + ")", true, x.code((int) opsAndCs[i], opsAndCs[i + 1]));
        }
        return x.deploy(t);
    }

    private static void lists(Grid x, String what, int[] owners, int[] sets) {
        for (int p = 0; p < 6; p++) {
            due(what + ": owner(" + p + ")", owners[p], x.owner(p));
            due(what + ": copies(" + p + ")", sets[p], x.copies(p));
        }
    }

    private static int[] all(int value) {
        return new int[] {value, value, value, value, value, value};
    }

    private static void newObject() {
        test = "1 a new object";
        Grid x = new Grid(1);
        lists(x, "new", all(-1), all(0));
        due("lost()", 0, x.lost());
        due("executed()", 0, x.executed());
        due("migrate()", -1, x.migrate());
        for (int m = 0; m < 5; m++) {
            due("crash", false, x.crash(m));
            due("leave", false, x.leave(m));
        }
        for (int key = 0; key < 18; key++) {
            due("present", false, x.present(key % 5, key));
            due("value", 0, x.value(key % 5, key));
        }
        for (int client = 0; client < 3; client++) {
            due("retry", BAD, x.retry(client));
            due("result", 0, x.result(client));
        }
        for (int t = 0; t < 4; t++) {
            due("deploy of the empty draft", BAD, x.deploy(t));
        }
        due("join(2)", true, x.join(2));
        for (int t = 0; t < 4; t++) {
            due("submit with no task and no fault", NO_TASK, x.submit(0, t, 0, 0));
        }
        int[][] clamped = {{Integer.MIN_VALUE, 1}, {-1, 1}, {0, 1}, {1, 3}, {2, 7}, {3, 7}, {4, 7}, {Integer.MAX_VALUE, 7}};
        for (int[] row : clamped) {
            due("copies(0) with backups " + row[0], row[1], withMembers(row[0], 0, 1, 2, 3, 4).copies(0));
        }
    }

    private static void code() {
        test = "2 code";
        Grid x = new Grid(0);
        for (int op : OUTSIDE) {
            due("code(" + op + ", 0)", false, x.code(op, 0));
        }
        due("deploy(0): a refused instruction is not in the draft", BAD, x.deploy(0));
        for (int op = 0; op < 24; op++) {
            due("code(" + op + ", MIN)", true, x.code(op, MIN));
            x.deploy(-1);
        }
        for (int i = 0; i < 15; i++) {
            due("code(REMOVE) number " + i, true, x.code(REMOVE, 0));
        }
        due("code(24) with 15", false, x.code(24, 0));
        due("code(FAIL) as the 16th", true, x.code(FAIL, 0));
        due("code(END) as the 17th", false, x.code(END, 0));
        due("code(24) as the 17th", false, x.code(24, 0));
        due("deploy(0)", OK, x.deploy(0));
        due("code after deploy", true, x.code(FAIL, 0));
    }

    private static void deployAnswers() {
        test = "3 deploy";
        Grid x = withMembers(0, 0);
        due("a program", OK, deploy(x, 0, PUSH, 7, END, 0));
        for (int t : new int[] {Integer.MIN_VALUE, -1, 4, Integer.MAX_VALUE}) {
            due("deploy(" + t + ")", BAD, deploy(x, t, PUSH, 8, END, 0));
            due("deploy(0) after deploy(" + t + ") emptied the draft", BAD, x.deploy(0));
        }
        due("a faulty one", 17, deploy(x, 0, PUSH, 8, ADD, 0, END, 0));
        due("deploy(0) after a faulty one emptied the draft", BAD, x.deploy(0));
        due("submit", OK, x.submit(0, 0, 0, 0));
        due("result: task 0 stayed as it was", 7, x.result(0));
        due("another program", OK, deploy(x, 0, PUSH, 9, END, 0));
        due("submit", OK, x.submit(0, 0, 0, 0));
        due("result: task 0 is the new one", 9, x.result(0));
        due("submit of task 1", NO_TASK, x.submit(0, 1, 0, 0));
        due("task 3", OK, deploy(x, 3, PUSH, 3, END, 0));
        due("submit of task 3", OK, x.submit(0, 3, 0, 0));
        due("result", 3, x.result(0));
        due("submit of task 0", OK, x.submit(0, 0, 0, 0));
        due("result", 9, x.result(0));
        due("a shorter program", OK, deploy(x, 0, FAIL, 0));
        due("submit of task 0", FAILED, x.submit(0, 0, 0, 0));
        due("an earlier draft's rest is none of the program", 16, deploy(x, 0, REMOVE, 0));
    }

    private static void deployHeights() {
        test = "3 deploy, heights";
        int[][] needs = {{ADD, 2}, {SUB, 2}, {MUL, 2}, {DIV, 2}, {REM, 2}, {AND, 2}, {XOR, 2}, {SHL, 2}, {SHR, 2}, {USHR, 2},
            {LESS, 2}, {DUP, 1}, {SWAP, 2}, {DROP, 1}, {PUT, 1}, {ZERO, 1}, {END, 1}, {PUSH, 0}, {OLD, 0}, {HAS, 0}, {ARG, 0},
            {REMOVE, 0}, {JUMP, 0}, {FAIL, 0}};
        int[] after = new int[24];
        for (int[] row : needs) {
            after[row[0]] = row[0] <= ARG || row[0] == DUP ? 1 : row[0] <= LESS ? -1
                : row[0] == DROP || row[0] == PUT || row[0] == ZERO || row[0] == END ? -1 : 0;
        }
        for (int[] row : needs) {
            int op = row[0];
            for (int d = 0; d <= 4; d++) {
                Grid x = new Grid(0);
                for (int i = 0; i < d; i++) {
                    x.code(PUSH, 0);
                }
                x.code(op, d + 1);
                boolean fits = d >= row[1] && d + after[op] <= 4;
                // What stands behind tells the height: so many DROPs fit, one more is faulty.
                int e = d + after[op];
                for (int i = 0; i <= e && fits; i++) {
                    x.code(DROP, 0);
                }
                x.code(FAIL, 0);
                boolean ends = op == FAIL || op == END;
                int want = !fits ? 16 + d : ends ? OK : 16 + d + 1 + e;
                due("op " + op + " at height " + d, want, x.deploy(0));
            }
        }
    }

    private static void deployFlow() {
        test = "3 deploy, flow";
        Grid x = new Grid(0);
        due("the end is run over", 17, deploy(x, 0, PUSH, 0, DROP, 0));
        due("ZERO falls over the end", 17, deploy(x, 0, PUSH, 0, ZERO, 0));
        due("JUMP at the end", OK, deploy(x, 0, PUSH, 0, DROP, 0, JUMP, 0));
        for (long c : new long[] {-1, 3, 16, 1L << 32, (1L << 32) + 1, -(1L << 32), MIN, MAX}) {
            due("JUMP " + c, 17, deploy(x, 0, PUSH, 0, JUMP, c, FAIL, 0));
            due("ZERO " + c, 17, deploy(x, 0, PUSH, 0, ZERO, c, FAIL, 0));
        }
        due("JUMP to the last", OK, deploy(x, 0, PUSH, 0, JUMP, 2, FAIL, 0));
        due("ZERO to the last", OK, deploy(x, 0, PUSH, 0, ZERO, 2, FAIL, 0));
        due("faulty, but not reached", OK, deploy(x, 0, JUMP, 3, ADD, 0, JUMP, -1, FAIL, 0));
        due("faulty, reached by ZERO alone", 18, deploy(x, 0, PUSH, 0, ZERO, 2, END, 0, FAIL, 0));
        due("two heights meet", 19, deploy(x, 0, PUSH, 0, ZERO, 3, PUSH, 0, REMOVE, 0, FAIL, 0));
        due("two heights meet at FAIL", 19, deploy(x, 0, PUSH, 0, ZERO, 3, PUSH, 0, FAIL, 0));
        due("a loop that grows", 16, deploy(x, 0, PUSH, 0, JUMP, 0));
        due("a loop that shrinks", 20, deploy(x, 0, PUSH, 0, PUSH, 0, PUSH, 0, PUSH, 0, DROP, 0, JUMP, 4));
        due("the least one, found late", 17, deploy(x, 0, JUMP, 2, ADD, 0, PUSH, 0, ZERO, 1, ADD, 0));
        due("an instruction after a misfit is not reached", 16, deploy(x, 0, DROP, 0, JUMP, 99));
        due("no next for END at the end", OK, deploy(x, 0, PUSH, 0, END, 0));
        due("no next for FAIL alone", OK, deploy(x, 0, FAIL, 0));
        due("c of others is free", OK, deploy(x, 0, OLD, -1, DUP, 99, ADD, MIN, END, MAX));
        due("a chain of jumps backwards", 16 + 1, deploy(x, 0, JUMP, 15, DROP, 0, JUMP, 1, JUMP, 2, JUMP, 3, JUMP, 4, JUMP, 5,
            JUMP, 6, JUMP, 7, JUMP, 8, JUMP, 9, JUMP, 10, JUMP, 11, JUMP, 12, JUMP, 13, JUMP, 14));
    }

    private static void join() {
        test = "4 join";
        Grid x = new Grid(2);
        for (int m : new int[] {Integer.MIN_VALUE, -1, 5, 32, Integer.MAX_VALUE}) {
            due("join(" + m + ")", false, x.join(m));
        }
        lists(x, "nobody joined", all(-1), all(0));
        due("submit", NO_MEMBER, x.submit(0, 0, 0, 0));
        due("join(3)", true, x.join(3));
        lists(x, "3 joined", all(3), all(8));
        due("join(3) again", false, x.join(3));
        due("join(0)", true, x.join(0));
        lists(x, "0 joined, no list was empty", all(3), all(8));
        due("join(4)", true, x.join(4));
        due("join(1)", true, x.join(1));
        due("join(2)", true, x.join(2));
        for (int m = 0; m < 5; m++) {
            due("join(" + m + ") when live", false, x.join(m));
        }
        lists(x, "all joined", all(3), all(8));
        due("crash(4)", true, x.crash(4));
        due("join(4) after its crash", true, x.join(4));
    }

    private static void crash() {
        test = "5 crash";
        Grid x = withTasks(1, 0, 1, 2, 3, 4);
        for (int m : new int[] {Integer.MIN_VALUE, -1, 5, 32, 33, Integer.MAX_VALUE}) {
            due("crash(" + m + ")", false, x.crash(m));
        }
        lists(x, "all live", new int[] {0, 1, 2, 3, 4, 0}, new int[] {3, 6, 12, 24, 17, 3});
        for (int key = 0; key < 18; key++) {
            due("submit", OK, x.submit(0, 1, key, 100 + key));
        }
        due("crash(0)", true, x.crash(0));
        due("crash(0) again", false, x.crash(0));
        lists(x, "0 gone", new int[] {1, 1, 2, 3, 4, 1}, new int[] {2, 6, 12, 24, 16, 2});
        due("lost()", 0, x.lost());
        due("value(1, 6)", 106, x.value(1, 6));
        due("present(0, 6)", false, x.present(0, 6));
        due("crash(1)", true, x.crash(1));
        due("lost()", 2, x.lost());
        lists(x, "0 and 1 gone", new int[] {2, 2, 2, 3, 4, 2}, new int[] {4, 4, 12, 24, 16, 4});
        for (int key = 0; key < 18; key++) {
            int p = key % 6;
            boolean stays = p != 0 && p != 5;
            due("present(" + key + ")", stays, x.present(x.owner(p), key));
            due("value(" + key + ")", stays ? 100 + key : 0, x.value(x.owner(p), key));
        }
        due("crash(2)", true, x.crash(2));
        lists(x, "3 and 4 stay", new int[] {3, 3, 3, 3, 4, 3}, new int[] {8, 8, 8, 24, 16, 8});
        due("lost()", 5, x.lost());
        due("crash(3)", true, x.crash(3));
        lists(x, "4 stays", all(4), all(16));
        due("lost()", 9, x.lost());
        due("present(4, 3): 4 held a copy of partition 3", true, x.present(4, 3));
        due("crash(4)", true, x.crash(4));
        lists(x, "nobody stays", all(-1), all(0));
        due("lost()", 15, x.lost());
        due("join(0)", true, x.join(0));
        for (int key = 0; key < 18; key++) {
            due("present(0, " + key + ")", false, x.present(0, key));
        }
    }

    private static void crashForgetsRecords() {
        test = "5 crash, records";
        Grid x = withTasks(0, 0, 1);
        due("fault(4)", true, x.fault(4));
        due("submit", LOST, x.submit(2, 0, 0, 5));
        due("value(0, 0)", 5, x.value(0, 0));
        due("crash(0): 0 held all but partition 1", true, x.crash(0));
        due("lost()", 5, x.lost());
        due("retry: no record, so it is executed", OK, x.retry(2));
        due("result", 5, x.result(2));
        due("executed()", 2, x.executed());
    }

    private static void leave() {
        test = "6 leave";
        Grid x = withTasks(0, 0, 1, 2, 4);
        for (int m : new int[] {Integer.MIN_VALUE, -1, 3, 5, 32, 33, Integer.MAX_VALUE}) {
            due("leave(" + m + ")", false, x.leave(m));
        }
        lists(x, "3 is not live", new int[] {0, 1, 2, 4, 4, 0}, new int[] {1, 2, 4, 16, 16, 1});
        for (int key = 0; key < 18; key++) {
            due("submit", OK, x.submit(0, 1, key, 100 + key));
        }
        due("fault(4)", true, x.fault(4));
        due("submit", LOST, x.submit(1, 0, 3, 7));
        due("leave(4)", true, x.leave(4));
        due("leave(4) again", false, x.leave(4));
        lists(x, "4 left", new int[] {0, 1, 2, 0, 0, 0}, new int[] {1, 2, 4, 1, 1, 1});
        due("lost()", 0, x.lost());
        due("retry: the record was handed over", OK, x.retry(1));
        due("result", 110, x.result(1));
        due("executed()", 19, x.executed());
        due("leave(0)", true, x.leave(0));
        lists(x, "0 left", new int[] {1, 1, 2, 1, 1, 1}, new int[] {2, 2, 4, 2, 2, 2});
        due("leave(1)", true, x.leave(1));
        lists(x, "1 left", all(2), all(4));
        for (int key = 0; key < 18; key++) {
            due("value(2, " + key + ")", key == 3 ? 110 : 100 + key, x.value(2, key));
        }
        due("lost()", 0, x.lost());
        due("leave(2), the last", true, x.leave(2));
        lists(x, "nobody stays", all(-1), all(0));
        due("lost()", 6, x.lost());
    }

    private static void leaveWithBackups() {
        test = "6 leave, backups";
        Grid x = withTasks(2, 0, 1, 2, 3);
        due("submit", OK, x.submit(0, 1, 0, 8));
        due("leave(0)", true, x.leave(0));
        due("owner(0)", 1, x.owner(0));
        due("copies(0): nobody new", 6, x.copies(0));
        due("leave(2)", true, x.leave(2));
        due("copies(0)", 2, x.copies(0));
        due("join(2)", true, x.join(2));
        due("join(0)", true, x.join(0));
        due("leave(1): m alone, handed over to one member", true, x.leave(1));
        due("owner(0)", 0, x.owner(0));
        due("copies(0)", 1, x.copies(0));
        due("value(0, 0)", 8, x.value(0, 0));
        due("lost()", 0, x.lost());
    }

    private static void leaveOneBehind() {
        test = "6 leave, one stays";
        for (int m = 0; m < 5; m++) {
            int other = (m + 3) % 5;
            Grid x = withTasks(0, m);
            due("submit", OK, x.submit(0, 1, 10, 8));
            due("join(" + other + ")", true, x.join(other));
            due("leave(" + m + ")", true, x.leave(m));
            lists(x, other + " stays", all(other), all(1 << other));
            due("value(" + other + ", 10)", 8, x.value(other, 10));
            due("lost()", 0, x.lost());
        }
    }

    private static void migrate() {
        test = "7 migrate";
        Grid x = withTasks(1, 3);
        due("submit", OK, x.submit(0, 1, 0, 8));
        due("submit", OK, x.submit(0, 1, 6, 9));
        due("fault(4)", true, x.fault(4));
        due("submit", LOST, x.submit(1, 0, 0, 7));
        due("join(4)", true, x.join(4));
        for (int p = 0; p < 6; p++) {
            due("migrate()", p, x.migrate());
        }
        due("migrate()", -1, x.migrate());
        lists(x, "3 and 4", new int[] {3, 3, 3, 3, 4, 3}, all(24));
        due("join(0)", true, x.join(0));
        due("migrate()", 0, x.migrate());
        due("owner(0)", 0, x.owner(0));
        due("copies(0)", 9, x.copies(0));
        due("value(0, 0)", 15, x.value(0, 0));
        due("value(0, 6)", 9, x.value(0, 6));
        due("present(0, 12)", false, x.present(0, 12));
        due("present(4, 0): 4 holds no copy now", false, x.present(4, 0));
        due("crash(3)", true, x.crash(3));
        due("retry: the record came along", OK, x.retry(1));
        due("executed()", 3, x.executed());
        due("result", 15, x.result(1));
    }

    private static void migrateOrder() {
        test = "7 migrate, order of the list";
        Grid x = withMembers(1, 0, 4);
        lists(x, "0 and 4", new int[] {0, 4, 4, 4, 4, 0}, all(17));
        due("join(1)", true, x.join(1));
        due("migrate()", 0, x.migrate());
        due("copies(0)", 3, x.copies(0));
        due("crash(0)", true, x.crash(0));
        lists(x, "1 and 4", new int[] {1, 4, 4, 4, 4, 4}, new int[] {2, 16, 16, 16, 16, 16});
        for (int p = 0; p < 6; p++) {
            due("migrate()", p, x.migrate());
        }
        lists(x, "1 and 4 migrated", new int[] {1, 1, 4, 4, 4, 1}, all(18));
        due("join(0)", true, x.join(0));
        due("crash(1)", true, x.crash(1));
        due("join(1)", true, x.join(1));
        due("migrate()", 0, x.migrate());
        due("owner(0)", 0, x.owner(0));
        due("copies(0)", 3, x.copies(0));
        Grid y = withMembers(1, 1, 4);
        due("owner(2)", 4, y.owner(2));
        due("copies(2)", 18, y.copies(2));
        due("join(2)", true, y.join(2));
        due("crash(4)", true, y.crash(4));
        due("owner(2)", 1, y.owner(2));
        migrateAll(y);
        due("owner(2)", 2, y.owner(2));
        due("copies(2)", 6, y.copies(2));
        due("owner(3): 3, 4, 0 are not live", 1, y.owner(3));
        due("copies(3)", 6, y.copies(3));
    }

    private static void fault() {
        test = "8 fault";
        Grid x = withTasks(1, 0, 1);
        for (int kind : new int[] {Integer.MIN_VALUE, -1, 5, 6, Integer.MAX_VALUE}) {
            due("fault(" + kind + ")", false, x.fault(kind));
        }
        due("submit: none is set", OK, x.submit(0, 0, 0, 1));
        due("fault(1)", true, x.fault(1));
        due("fault(7)", false, x.fault(7));
        due("submit BAD uses no fault up", BAD, x.submit(3, 0, 0, 1));
        due("retry BAD uses no fault up", BAD, x.retry(0));
        due("submit", LOST, x.submit(0, 0, 0, 1));
        due("retry: the fault is 0 again", OK, x.retry(0));
        due("fault(4)", true, x.fault(4));
        due("fault(0)", true, x.fault(0));
        due("submit: taken back", OK, x.submit(0, 0, 0, 1));
        due("fault(3)", true, x.fault(3));
        due("fault(1)", true, x.fault(1));
        due("submit: the latest counts", LOST, x.submit(0, 0, 0, 1));
        due("value: not executed", 3, x.value(0, 0));
        due("executed()", 3, x.executed());
        for (int kind = 1; kind <= 4; kind++) {
            Grid y = new Grid(0);
            due("fault", true, y.fault(kind));
            due("submit with no member", NO_MEMBER, y.submit(0, 0, 0, 0));
            due("join(2)", true, y.join(2));
            due("retry: the fault " + kind + " was used up", NO_TASK, y.retry(0));
            due("owner(0)", 2, y.owner(0));
        }
    }

    private static void submit() {
        test = "9 submit";
        Grid x = withTasks(1, 0, 1, 2);
        for (int client : new int[] {Integer.MIN_VALUE, -1, 3, Integer.MAX_VALUE}) {
            due("submit(" + client + ", ..)", BAD, x.submit(client, 0, 0, 1));
        }
        for (int key : new int[] {Integer.MIN_VALUE, -1, 18, Integer.MAX_VALUE}) {
            due("submit(.. " + key + " ..)", BAD, x.submit(0, 0, key, 1));
        }
        due("retry: BAD made no request", BAD, x.retry(0));
        due("executed()", 0, x.executed());
        for (int task : new int[] {Integer.MIN_VALUE, -1, 4, Integer.MAX_VALUE}) {
            due("submit of task " + task, NO_TASK, x.submit(0, task, 0, 1));
        }
        due("executed() counts NO_TASK", 4, x.executed());
        due("submit of task 1", OK, x.submit(0, 1, 17, Integer.MIN_VALUE));
        due("result", Integer.MIN_VALUE, x.result(0));
        due("value(0, 17)", Integer.MIN_VALUE, x.value(0, 17));
        due("value(1, 17)", Integer.MIN_VALUE, x.value(1, 17));
        due("value(2, 17)", 0, x.value(2, 17));
        due("submit of task 3", FAILED, x.submit(0, 3, 17, 5));
        due("result", 0, x.result(0));
        due("value(0, 17): as before", Integer.MIN_VALUE, x.value(0, 17));
        due("submit of task 0", OK, x.submit(1, 0, 17, -1));
        due("result", Integer.MIN_VALUE - 1L, x.result(1));
        due("submit of task 2", OK, x.submit(1, 2, 17, -1));
        due("result", 0, x.result(1));
        due("present(0, 17)", false, x.present(0, 17));
        due("present(1, 17)", false, x.present(1, 17));
        due("submit of task 3 without an entry", FAILED, x.submit(1, 3, 17, 5));
        due("present(0, 17)", false, x.present(0, 17));
    }

    /** What a task that leaves its value on the stack answers, on an absent entry. */
    private static void answers(String what, long want, long... opsAndCs) {
        Grid x = withMembers(0, 0);
        due(what + ": deploy", OK, deploy(x, 0, opsAndCs));
        due(what + ": submit", OK, x.submit(0, 0, 0, -5));
        due(what, want, x.result(0));
    }

    private static void fails(String what, long... opsAndCs) {
        Grid x = withMembers(0, 0);
        due(what + ": deploy", OK, deploy(x, 0, opsAndCs));
        due(what, FAILED, x.submit(0, 0, 0, -5));
        due(what + ": result", 0, x.result(0));
        due(what + ": present", false, x.present(0, 0));
    }

    private static void binary(int op, long x, long y, long want) {
        answers("op " + op + " of " + x + " and " + y, want, PUSH, x, PUSH, y, op, 0, END, 0);
    }

    private static void instructions() {
        test = "9 submit, instructions";
        long[][] pairs = {{7, 3}, {-7, 3}, {7, -3}, {MIN, -1}, {MAX, 1}, {MIN, 1}, {0, 5}, {-1, 64}, {-1, 65}, {-8, -1}, {5, 5}};
        for (long[] pair : pairs) {
            long x = pair[0];
            long y = pair[1];
            binary(ADD, x, y, x + y);
            binary(SUB, x, y, x - y);
            binary(MUL, x, y, x * y);
            binary(DIV, x, y, x / y);
            binary(REM, x, y, x % y);
            binary(AND, x, y, x & y);
            binary(XOR, x, y, x ^ y);
            binary(SHL, x, y, x << (y & 63));
            binary(SHR, x, y, x >> (y & 63));
            binary(USHR, x, y, x >>> (y & 63));
            binary(LESS, x, y, x < y ? 1 : 0);
        }
        binary(DIV, MIN, -1, MIN);
        binary(REM, MIN, -1, 0);
        binary(SHL, 1, 63, MIN);
        binary(SHL, 1, 64, 1);
        binary(SHR, MIN, 63, -1);
        binary(USHR, MIN, 63, 1);
        binary(SHL, 1, 1L << 32, 1);
        binary(LESS, MIN, MAX, 1);
        binary(LESS, MAX, MIN, 0);
        fails("DIV by 0", PUSH, 1, PUT, 0, PUSH, 5, PUSH, 0, DIV, 0, END, 0);
        fails("REM by 0", PUSH, 1, PUT, 0, PUSH, 5, PUSH, 0, REM, 0, END, 0);
        fails("FAIL", PUSH, 1, PUT, 0, FAIL, 0);
        answers("PUSH", MIN, PUSH, MIN, END, 0);
        answers("ARG", -5, ARG, 0, END, 0);
        answers("OLD of none", 0, OLD, 9, END, 0);
        answers("HAS of none", 0, HAS, 9, END, 0);
        answers("HAS after PUT", 1, PUSH, 4, PUT, 0, HAS, 0, END, 0);
        answers("OLD after PUT", 4, PUSH, 4, PUT, 0, OLD, 0, END, 0);
        answers("OLD after PUT and REMOVE", 0, PUSH, 4, PUT, 0, REMOVE, 0, OLD, 0, END, 0);
        answers("HAS after PUT and REMOVE", 0, PUSH, 4, PUT, 0, REMOVE, 0, HAS, 0, END, 0);
        answers("DUP", 9, PUSH, 3, DUP, 0, MUL, 0, END, 0);
        answers("SWAP", -2, PUSH, 3, PUSH, 1, SWAP, 0, SUB, 0, END, 0);
        answers("DROP", 3, PUSH, 3, PUSH, 1, DROP, 0, END, 0);
        answers("END with a high stack", 4, PUSH, 1, PUSH, 2, PUSH, 3, PUSH, 4, END, 0);
        answers("below the top", 1, PUSH, 1, PUSH, 2, PUSH, 3, PUSH, 4, DROP, 0, DROP, 0, DROP, 0, END, 0);
        answers("JUMP", 2, PUSH, 2, JUMP, 4, DROP, 0, PUSH, 3, END, 0);
        answers("ZERO of 0", 2, PUSH, 2, PUSH, 0, ZERO, 5, DROP, 0, PUSH, 3, END, 0);
        answers("ZERO of 1", 3, PUSH, 2, PUSH, 1, ZERO, 5, DROP, 0, PUSH, 3, END, 0);
        answers("ZERO of 2 to the 32", 3, PUSH, 2, PUSH, 1L << 32, ZERO, 5, DROP, 0, PUSH, 3, END, 0);
    }

    private static void views() {
        test = "9 submit, the view";
        Grid x = withTasks(0, 0);
        due("has", OK, deploy(x, 3, HAS, 0, END, 0));
        for (int key = 0; key < 18; key++) {
            due("HAS without an entry", OK, x.submit(0, 3, key, 0));
            due("result", 0, x.result(0));
            due("a look makes no entry", false, x.present(0, key));
            due("put", OK, x.submit(0, 1, key, -key));
            due("HAS with an entry", OK, x.submit(0, 3, key, 0));
            due("result", 1, x.result(0));
            due("a look leaves the entry", true, x.present(0, key));
            due("a look leaves the value", -key, x.value(0, key));
        }
        due("remove", OK, x.submit(0, 2, 5, 0));
        due("present(0, 5)", false, x.present(0, 5));
        due("present(0, 11), of the same partition", true, x.present(0, 11));
        due("add", OK, x.submit(0, 0, 5, 4));
        due("result: from 0 again", 4, x.result(0));
    }

    private static void ownersOfKeys() {
        test = "9 submit, the owner of a key";
        for (int key = 0; key < 18; key++) {
            for (int kind = 2; kind <= 3; kind++) {
                Grid x = withTasks(1, 0, 1, 2, 3, 4);
                due("fault", true, x.fault(kind));
                due("submit for key " + key, LOST, x.submit(2, 1, key, 4));
                int owner = key % 6 % 5;
                for (int m = 0; m < 5; m++) {
                    due("crash(" + m + ") after fault " + kind + " for key " + key, m != owner, x.crash(m));
                    due("join(" + m + ")", true, x.join(m));
                }
            }
        }
    }

    private static void forced() {
        test = "9 submit, 80 instructions";
        // 1 + 5 n + 4 instructions for arg n: 80 for 15; a further REMOVE makes 81.
        for (int end : new int[] {END, FAIL}) {
            Grid x = withMembers(1, 0, 1);
            due("80", OK, deploy(x, 0, ARG, 0, DUP, 0, ZERO, 6, PUSH, 1, SUB, 0, JUMP, 1, DUP, 0, end, 0));
            due("81", OK, deploy(x, 1, REMOVE, 0, ARG, 0, DUP, 0, ZERO, 7, PUSH, 1, SUB, 0, JUMP, 2, DUP, 0, end, 0));
            due("put", OK, deploy(x, 2, PUSH, 77, PUT, 0, PUSH, 78, END, 0));
            due("for ever", OK, deploy(x, 3, PUSH, 5, PUT, 0, JUMP, 0));
            due("put", OK, x.submit(0, 2, 4, 0));
            due("80 instructions", end == END ? OK : FAILED, x.submit(0, 0, 4, 15));
            due("81 instructions, with REMOVE", FORCED, x.submit(0, 1, 4, 15));
            due("value(0, 4)", 77, x.value(0, 4));
            due("result", 0, x.result(0));
            due("put", OK, x.submit(0, 2, 4, 0));
            due("result", 78, x.result(0));
            due("for ever", FORCED, x.submit(0, 3, 4, 0));
            due("result", 0, x.result(0));
            due("value(0, 4)", 77, x.value(0, 4));
            due("76 instructions, with REMOVE", end == END ? OK : FAILED, x.submit(0, 1, 4, 14));
            due("present(0, 4)", end != END, x.present(0, 4));
        }
        Grid x = withMembers(0, 0);
        due("DIV by 0 as the 80th", OK,
            deploy(x, 0, ARG, 0, DUP, 0, ZERO, 6, PUSH, 1, SUB, 0, JUMP, 1, DUP, 0, DIV, 0, END, 0));
        due("submit", FAILED, x.submit(0, 0, 0, 15));
        due("submit", FORCED, x.submit(0, 0, 0, 16));
    }

    private static void retry() {
        test = "10 retry";
        Grid x = withTasks(1, 0, 1, 2);
        for (int client : new int[] {Integer.MIN_VALUE, -1, 3, Integer.MAX_VALUE}) {
            due("retry(" + client + ")", BAD, x.retry(client));
        }
        due("retry(1) without a request", BAD, x.retry(1));
        due("submit", FAILED, x.submit(1, 3, 0, 0));
        due("retry(1), answered", BAD, x.retry(1));
        due("retry(0), without a request", BAD, x.retry(0));
        int[] codes = {OK, OK, OK, FAILED, NO_TASK};
        int executed = x.executed();
        for (int task = 0; task < 5; task++) {
            due("fault(4)", true, x.fault(4));
            due("submit of task " + task, LOST, x.submit(0, task, 3, 6));
            due("fault(4)", true, x.fault(4));
            due("retry, lost again", LOST, x.retry(0));
            due("retry, lost again", LOST, retryWith(x, 1));
            due("retry", codes[task], x.retry(0));
            due("retry, answered", BAD, x.retry(0));
            due("executed()", executed + 1, x.executed());
            executed = x.executed();
        }
        due("fault(1)", true, x.fault(1));
        due("submit", LOST, x.submit(0, 1, 3, 6));
        due("fault(1)", true, x.fault(1));
        due("submit of another", LOST, x.submit(0, 1, 9, 7));
        due("retry of the latest", OK, x.retry(0));
        due("present", false, x.present(x.owner(3), 3));
        due("value", 7, x.value(x.owner(3), 9));
        due("retry", BAD, x.retry(0));
    }

    private static int retryWith(Grid x, int kind) {
        due("fault(" + kind + ")", true, x.fault(kind));
        return x.retry(0);
    }

    private static void retryRecords() {
        test = "10 retry, records";
        Grid x = withTasks(1, 0, 1);
        due("fault(4)", true, x.fault(4));
        due("submit", LOST, x.submit(0, 0, 0, 5));
        due("submit of another client", OK, x.submit(1, 0, 0, 10));
        due("submit of another client", OK, x.submit(2, 0, 6, 11));
        due("retry takes the record, whatever came between", OK, x.retry(0));
        due("result", 5, x.result(0));
        due("value", 15, x.value(0, 0));
        due("executed()", 3, x.executed());
        // A record is of one partition: request 2 is executed in partition 1 though partition 0 has record 1.
        due("submit", OK, x.submit(0, 0, 1, 5));
        due("fault(1)", true, x.fault(1));
        due("submit", LOST, x.submit(0, 0, 0, 5));
        due("retry is executed: its number is not the record's", OK, x.retry(0));
        due("value", 20, x.value(0, 0));
        due("executed()", 5, x.executed());
        due("no member", true, x.crash(0));
        due("no member", true, x.crash(1));
        due("submit", NO_MEMBER, x.submit(0, 1, 0, 3));
        due("retry", NO_MEMBER, x.retry(0));
        due("result stays", 20, x.result(0));
        due("join(4)", true, x.join(4));
        due("retry", OK, x.retry(0));
        due("value(4, 0)", 3, x.value(4, 0));
        due("another task 1", OK, deploy(x, 1, PUSH, 44, END, 0));
        due("fault(1)", true, x.fault(1));
        due("submit", LOST, x.submit(0, 1, 0, 3));
        due("another task 1", OK, deploy(x, 1, PUSH, 45, END, 0));
        due("retry runs the task that is deployed now", OK, x.retry(0));
        due("result", 45, x.result(0));
    }

    private static void ownerGoesBefore() {
        test = "10 sending, fault 2";
        Grid x = withTasks(1, 0, 1, 2);
        due("submit", OK, x.submit(0, 0, 0, 5));
        due("fault(2)", true, x.fault(2));
        due("submit", LOST, x.submit(0, 0, 0, 6));
        due("executed()", 2, x.executed());
        due("owner(0)", 1, x.owner(0));
        due("copies(0)", 2, x.copies(0));
        due("copies(2): 0 is gone from all lists", 4, x.copies(2));
        due("value(1, 0)", 5, x.value(1, 0));
        due("result", 5, x.result(0));
        due("crash(0)", false, x.crash(0));
        due("fault(4)", true, x.fault(4));
        due("retry is executed again", LOST, x.retry(0));
        due("value(1, 0)", 11, x.value(1, 0));
        due("executed()", 3, x.executed());
        migrateAll(x);
        due("fault(2), not executed", true, x.fault(2));
        due("retry", LOST, x.retry(0));
        due("executed()", 3, x.executed());
        due("owner(0)", 2, x.owner(0));
        due("join(1)", true, x.join(1));
        due("retry takes the record", OK, x.retry(0));
        due("result", 11, x.result(0));
        due("executed()", 3, x.executed());
        due("lost()", 0, x.lost());
        due("crash(1)", true, x.crash(1));
        due("fault(2) with a single copy", true, x.fault(2));
        due("submit", LOST, x.submit(0, 0, 0, 1));
        due("lost()", 6, x.lost());
        due("owner(0)", -1, x.owner(0));
        due("retry", NO_MEMBER, x.retry(0));
    }

    private static void ownerGoesAfter() {
        test = "10 sending, fault 3";
        Grid x = withTasks(1, 0, 1, 2);
        due("fault(3)", true, x.fault(3));
        due("submit", LOST, x.submit(0, 0, 0, 6));
        due("executed()", 1, x.executed());
        due("copies(0)", 2, x.copies(0));
        due("value(1, 0)", 6, x.value(1, 0));
        due("result", 0, x.result(0));
        migrateAll(x);
        due("fault(3), not executed", true, x.fault(3));
        due("retry", LOST, x.retry(0));
        due("copies(0)", 4, x.copies(0));
        due("retry takes the record", OK, x.retry(0));
        due("result", 6, x.result(0));
        due("executed()", 1, x.executed());
        due("fault(3) with a single copy", true, x.fault(3));
        due("join(0)", true, x.join(0));
        due("submit", LOST, x.submit(0, 0, 0, 1));
        due("lost()", 6, x.lost());
        due("owner(0)", 0, x.owner(0));
        due("present(0, 0)", false, x.present(0, 0));
        due("retry is executed again", OK, x.retry(0));
        due("result", 1, x.result(0));
        due("executed()", 3, x.executed());
    }

    private static void result() {
        test = "11 result";
        Grid x = withTasks(1, 0, 1);
        due("submit", OK, x.submit(1, 1, 0, 9));
        for (int client : new int[] {Integer.MIN_VALUE, -1, 0, 2, 3, Integer.MAX_VALUE}) {
            due("result(" + client + ")", 0, x.result(client));
        }
        due("result(1)", 9, x.result(1));
        due("fault(4)", true, x.fault(4));
        due("submit", LOST, x.submit(1, 1, 0, 10));
        due("result(1) of the latest answered", 9, x.result(1));
        due("retry", OK, x.retry(1));
        due("result(1)", 10, x.result(1));
        due("submit BAD", BAD, x.submit(1, 1, 18, 11));
        due("result(1)", 10, x.result(1));
        due("submit NO_TASK", NO_TASK, x.submit(1, 9, 0, 11));
        due("result(1)", 0, x.result(1));
        due("a long result", OK, deploy(x, 0, PUSH, MAX, END, 0));
        due("submit", OK, x.submit(2, 0, 0, 0));
        due("result(2)", MAX, x.result(2));
    }

    private static void presentAndValue() {
        test = "12 and 13 present and value";
        Grid x = withTasks(1, 0, 1, 2, 3, 4);
        due("submit", OK, x.submit(0, 1, 8, 0));
        due("submit", OK, x.submit(0, 1, 3, -3));
        for (int m = -1; m <= 5; m++) {
            for (int key = -1; key <= 18; key++) {
                boolean holds = key == 8 && (m == 2 || m == 3) || key == 3 && (m == 3 || m == 4);
                due("present(" + m + ", " + key + ")", holds, x.present(m, key));
                due("value(" + m + ", " + key + ")", holds && key == 3 ? -3 : 0, x.value(m, key));
            }
        }
        for (int odd : new int[] {Integer.MIN_VALUE, Integer.MAX_VALUE, 34, 35, -29, -30}) {
            due("present(" + odd + ", 8)", false, x.present(odd, 8));
            due("value(" + odd + ", 3)", 0, x.value(odd, 3));
            due("present(2, " + odd + ")", false, x.present(2, odd));
            due("value(3, " + odd + ")", 0, x.value(3, odd));
        }
    }

    private static void ownerAndCopies() {
        test = "14 and 15 owner and copies";
        Grid x = withMembers(2, 0, 1, 2, 3, 4);
        lists(x, "all live", new int[] {0, 1, 2, 3, 4, 0}, new int[] {7, 14, 28, 25, 19, 7});
        for (int p : new int[] {Integer.MIN_VALUE, -1, 6, 12, Integer.MAX_VALUE}) {
            due("owner(" + p + ")", -1, x.owner(p));
            due("copies(" + p + ")", 0, x.copies(p));
        }
        due("crash(2)", true, x.crash(2));
        lists(x, "2 gone", new int[] {0, 1, 3, 3, 4, 0}, new int[] {3, 10, 24, 25, 19, 3});
        migrateAll(x);
        lists(x, "2 gone, migrated", new int[] {0, 1, 3, 3, 4, 0}, new int[] {11, 26, 25, 25, 19, 11});
    }

    private static void counts() {
        test = "16 and 17 lost and executed";
        Grid x = withTasks(0, 0, 1, 2, 3, 4);
        due("crash(0): two partitions", true, x.crash(0));
        due("lost()", 2, x.lost());
        due("crash(3): one", true, x.crash(3));
        due("lost()", 3, x.lost());
        due("leave(4): handed over", true, x.leave(4));
        due("lost()", 3, x.lost());
        due("lost() again", 3, x.lost());
        for (int task = 0; task < 5; task++) {
            x.submit(0, task, task, 0);
            due("executed()", task + 1, x.executed());
        }
        due("fault(1)", true, x.fault(1));
        due("submit", LOST, x.submit(0, 0, 0, 0));
        due("executed(): it did not arrive", 5, x.executed());
        due("retry", OK, x.retry(0));
        due("executed()", 6, x.executed());
        due("submit BAD", BAD, x.submit(0, 0, -1, 0));
        due("executed()", 6, x.executed());
        due("crash(1)", true, x.crash(1));
        due("crash(2)", true, x.crash(2));
        due("submit", NO_MEMBER, x.submit(0, 0, 0, 0));
        due("executed()", 6, x.executed());
    }

    private static void manyRequests() {
        test = "9 submit, 512 calls";
        Grid x = withTasks(2, 0, 1, 2);
        for (int i = 1; i <= 450; i++) {
            due("submit number " + i, OK, x.submit(0, 0, 5, 1));
        }
        due("result", 450, x.result(0));
        due("executed()", 450, x.executed());
    }

    public static void main(String[] args) {
        begin();
        newObject();
        code();
        deployAnswers();
        deployHeights();
        deployFlow();
        join();
        crash();
        crashForgetsRecords();
        leave();
        leaveWithBackups();
        leaveOneBehind();
        migrate();
        migrateOrder();
        fault();
        submit();
        instructions();
        views();
        ownersOfKeys();
        forced();
        retry();
        retryRecords();
        ownerGoesBefore();
        ownerGoesAfter();
        result();
        presentAndValue();
        ownerAndCopies();
        counts();
        manyRequests();
        end();
    }
}
