// The boundary cases of programs: promises 2 and 3, the instructions and the check, a test for each sentence.
public final class ProgramEdgesTest extends Check {
    private static final int[] TAKES = {0, 0, 0, 0, 2, 2, 2, 2, 2, 2, 2, 2, 2, 2, 2, 1, 2, 1, 1, 0, 0, 1, 0, 1};
    private static final int[] GIVES = {1, 1, 1, 1, 1, 1, 1, 1, 1, 1, 1, 1, 1, 1, 1, 2, 2, 0, 0, 0, 0, 0, 0, 0};
    private static final int[] NO_TASKS = {Integer.MIN_VALUE, -256, -4, -1, 4, 5, 16, 256, Integer.MAX_VALUE};

    public static void main(String[] args) {
        begin();
        code();
        deploy();
        checkOfHeights();
        checkOfNextOnes();
        leastFaulty();
        instructions();
        end();
    }

    // Promise 2

    private static void code() {
        sentence("2: appends the instruction and answers true: every op, every c", () -> {
            Grid x = new Grid(0);
            for (int op = 0; op <= 23; op++) {
                x.due(true).code(op, op % 2 == 0 ? MIN : MAX);
                x.deploy(-1);
            }
        });
        sentence("2: appends behind what is there, and keeps c whole", () -> {
            answers(MIN, PUSH, MIN, END, 0);
            answers(MAX, PUSH, MAX, END, 0);
            answers(1L << 32, PUSH, 1L << 32, END, 0);
            answers(-3, PUSH, 4, PUSH, 7, SUB, 0, END, 0);
        });
        sentence("2: false if op is not 0..23", () -> {
            for (int op : new int[] {Integer.MIN_VALUE, -256, -24, -2, -1, 24, 25, 32, 255, 256, Integer.MAX_VALUE}) {
                Grid x = new Grid(0);
                x.due(false).code(op, 0);
                x.due(BAD).deploy(0);
            }
        });
        sentence("2: nothing changes if op is not 0..23, whatever the draft holds", () -> {
            for (int before = 0; before <= 16; before++) {
                Grid x = withMembers(0, 0);
                addOnes(x, before, new int[] {-1, 24});
                x.due(before < 16).code(END, 0);
                x.due(before == 0 ? FAULTY : before < 16 ? OK : FAULTY + 15).deploy(0);
                x.due(before == 0 || before == 16 ? NO_TASK : OK).submit(0, 0, 0, 0);
                x.due(before == 0 || before == 16 ? 0 : before % 2 == 0 ? 1 : before / 2).result(0);
            }
        });
        sentence("2: the draft takes 16", () -> {
            Grid x = withMembers(0, 0);
            addOnes(x, 15, new int[0]);
            x.due(true).code(END, 0);
            x.due(OK).deploy(0);
            x.due(OK).submit(0, 0, 0, 0);
            x.due(7).result(0);
        });
        sentence("2: false, and nothing changes, if the draft has 16 already", () -> {
            for (int op = 0; op <= 24; op++) {
                Grid x = withMembers(0, 0);
                addOnes(x, 15, new int[0]);
                x.due(true).code(END, 0);
                x.due(false).code(op, 9);
                x.due(false).code(op, 9);
                x.due(OK).deploy(0);
                x.due(OK).submit(0, 0, 0, 0);
                x.due(7).result(0);
                x.due(BAD).deploy(0);
            }
        });
        sentence("2: after deploy the draft takes 16 again", () -> {
            for (int t : new int[] {0, 4}) {
                Grid x = new Grid(0);
                for (int round = 0; round < 3; round++) {
                    for (int i = 0; i < 16; i++) {
                        x.due(true).code(FAIL, 0);
                    }
                    x.due(false).code(FAIL, 0);
                    x.due(t == 0 ? OK : BAD).deploy(t);
                }
            }
        });
    }

    /** Appends so many of ARG, PUSH 1, ADD, PUSH 1, ADD, .. with the refused ops before each and at the end. */
    private static void addOnes(Grid x, int size, int[] refused) {
        for (int i = 0; i < size; i++) {
            for (int op : refused) {
                x.due(false).code(op, 0);
            }
            x.due(true).code(i == 0 ? ARG : i % 2 == 1 ? PUSH : ADD, 1);
        }
        for (int op : refused) {
            x.due(false).code(op, 0);
        }
    }

    // Promise 3

    private static void deploy() {
        sentence("3: BAD if t is not 0..3", () -> {
            for (int t : NO_TASKS) {
                Grid x = new Grid(0);
                draft(x, PUSH, 1, END, 0);
                x.due(BAD).deploy(t);
            }
        });
        sentence("3: BAD if t is not 0..3, and no task changes", () -> {
            for (int t : NO_TASKS) {
                Grid x = fourTasks();
                draft(x, PUSH, 99, END, 0);
                x.due(BAD).deploy(t);
                fourTasksStand(x, -1, 0);
                x.due(NO_TASK).submit(0, t, 0, 0);
            }
        });
        sentence("3: BAD, not the faulty instruction, if t is not 0..3", () -> {
            for (int t : NO_TASKS) {
                Grid x = new Grid(0);
                draft(x, ADD, 0);
                x.due(BAD).deploy(t);
            }
        });
        sentence("3: t may be 0, 1, 2 and 3", () -> fourTasksStand(fourTasks(), -1, 0));
        sentence("3: BAD if the draft was empty, and task t stays as it was", () -> {
            for (int t = 0; t < 4; t++) {
                Grid x = fourTasks();
                x.due(BAD).deploy(t);
                fourTasksStand(x, -1, 0);
                Grid y = withMembers(0, 0);
                y.due(BAD).deploy(t);
                y.due(NO_TASK).submit(0, t, 0, 0);
            }
        });
        sentence("3: BAD if the draft was empty and t is not 0..3", () -> {
            for (int t : NO_TASKS) {
                new Grid(0).due(BAD).deploy(t);
            }
        });
        sentence("3: empties the draft if t is not 0..3", () -> {
            for (int t : NO_TASKS) {
                Grid x = new Grid(0);
                draft(x, PUSH, 1, END, 0);
                x.due(BAD).deploy(t);
                emptyDraft(x);
            }
        });
        sentence("3: empties the draft if there is a faulty instruction", () -> {
            Grid x = new Grid(0);
            draft(x, PUSH, 1, ADD, 0);
            x.due(FAULTY + 1).deploy(2);
            emptyDraft(x);
        });
        sentence("3: empties the draft if the answer is OK", () -> {
            Grid x = new Grid(0);
            deploys(x, 2, PUSH, 1, END, 0);
            emptyDraft(x);
        });
        sentence("3: the draft that comes next is checked by itself alone", () -> {
            Grid x = new Grid(0);
            draft(x, PUSH, 1, PUSH, 1, END, 0);
            x.due(BAD).deploy(4);
            draft(x, REMOVE, 0);
            x.due(FAULTY).deploy(0);
            draft(x, JUMP, 1);
            x.due(FAULTY).deploy(0);
            deploys(x, 0, FAIL, 0);
        });
        sentence("3: a faulty instruction: task t stays as it was", () -> {
            for (int t = 0; t < 4; t++) {
                Grid x = fourTasks();
                draft(x, PUSH, 99, END, 0, ADD, 0, JUMP, 9);
                x.due(OK).deploy((t + 1) % 4);
                draft(x, PUSH, 98, DROP, 0);
                x.due(FAULTY + 1).deploy(t);
                fourTasksStand(x, (t + 1) % 4, 99);
            }
        });
        sentence("3: a faulty instruction: a task that is none stays none", () -> {
            for (int t = 0; t < 4; t++) {
                Grid x = withMembers(0, 0);
                draft(x, PUSH, 1, ADD, 0);
                x.due(FAULTY + 1).deploy(t);
                x.due(NO_TASK).submit(0, t, 0, 0);
            }
        });
        sentence("3: OK: task t is that program, and the other tasks stay", () -> {
            for (int t = 0; t < 4; t++) {
                Grid x = fourTasks();
                deploys(x, t, PUSH, 50, END, 0);
                fourTasksStand(x, t, 50);
                deploys(x, t, PUSH, 1, DROP, 0, PUSH, 51, PUSH, 52, SWAP, 0, END, 0);
                fourTasksStand(x, t, 51);
            }
        });
        sentence("Terms: programs of 1 to 16 instructions", () -> {
            Grid x = withMembers(0, 0);
            deploys(x, 0, FAIL, 0);
            deploys(x, 1, JUMP, 0);
            draft(x, JUMP, 14, END, 0);
            for (int i = 2; i < 14; i++) {
                x.due(true).code(FAIL, 0);
            }
            draft(x, PUSH, 5, JUMP, 1);
            x.due(OK).deploy(2);
            x.due(FAILED).submit(0, 0, 0, 0);
            x.due(FORCED).submit(0, 1, 0, 0);
            x.due(OK).submit(0, 2, 0, 0);
            x.due(5).result(0);
        });
    }

    private static Grid fourTasks() {
        Grid x = withMembers(0, 0);
        for (int t = 0; t < 4; t++) {
            deploys(x, t, PUSH, 10 + t, END, 0);
        }
        return x;
    }

    /** The tasks of fourTasks, but that task other answers otherResult. */
    private static void fourTasksStand(Grid x, int other, long otherResult) {
        for (int t = 0; t < 4; t++) {
            x.due(OK).submit(1, t, 0, 0);
            x.due(t == other ? otherResult : 10 + t).result(1);
        }
    }

    private static void emptyDraft(Grid x) {
        for (int t = 0; t < 4; t++) {
            x.due(BAD).deploy(t);
        }
        for (int i = 0; i < 16; i++) {
            x.due(true).code(FAIL, 0);
        }
        x.due(false).code(FAIL, 0);
    }

    // The check of a program

    /** PUSHes to height d, op, and so many DROPs and a FAIL behind it. */
    private static int atHeight(int d, int op, int drops) {
        Grid x = new Grid(0);
        for (int i = 0; i < d; i++) {
            x.due(true).code(PUSH, 0);
        }
        x.due(true).code(op, d + 1);
        for (int i = 0; i < drops; i++) {
            x.due(true).code(DROP, 0);
        }
        x.due(true).code(FAIL, 0);
        return x.deploy(0);
    }

    private static void answer(String what, int want, int got) {
        if (got != want) {
            report(what + ": deploy answered " + got + ", due is " + want);
        }
    }

    /** Behind op at height d, all ways lead to instruction 1, which would be faulty. */
    private static void misfitThenLower(int op, int d) {
        Grid x = new Grid(0);
        draft(x, JUMP, 2, JUMP, 99);
        for (int i = 0; i < d; i++) {
            x.due(true).code(PUSH, 0);
        }
        draft(x, op, 1, JUMP, 1);
        x.due(FAULTY + 2 + d).deploy(0);
    }

    private static void faulty(int instruction, long... opsAndCs) {
        Grid x = new Grid(0);
        draft(x, opsAndCs);
        x.due(FAULTY + instruction).deploy(0);
    }

    private static void sound(long... opsAndCs) {
        deploys(new Grid(0), 0, opsAndCs);
    }

    private static void checkOfHeights() {
        for (int each = 0; each <= 23; each++) {
            int op = each;
            int change = GIVES[op] - TAKES[op];
            sentence("Terms: faulty with a d below what op " + op + " takes", () -> {
                for (int d = 0; d < TAKES[op]; d++) {
                    answer("op " + op + " at height " + d, FAULTY + d, atHeight(d, op, 0));
                }
                answer("op " + op + " at just what it takes", OK, atHeight(TAKES[op], op, 0));
            });
            sentence("Terms: faulty with a height after op " + op + " above 4", () -> {
                for (int d = TAKES[op]; d <= 4; d++) {
                    answer("op " + op + " at height " + d, d + change > 4 ? FAULTY + d : OK, atHeight(d, op, 0));
                }
            });
            sentence("Terms: the height after op " + op, () -> {
                for (int d = TAKES[op]; d <= 4 && d + change <= 4; d++) {
                    int after = d + change;
                    boolean goesOn = op != FAIL && op != END;
                    answer("as many DROPs as op " + op + " leaves", OK, atHeight(d, op, after));
                    answer("one DROP more", goesOn ? FAULTY + d + 1 + after : OK, atHeight(d, op, after + 1));
                }
            });
        }
        sentence("Terms: a misfit is not gone on from", () -> {
            for (int op = 0; op <= 23; op++) {
                for (int d = 0; d <= 4; d++) {
                    if (d < TAKES[op] || d - TAKES[op] + GIVES[op] > 4) {
                        misfitThenLower(op, d);
                    }
                }
            }
        });
        sentence("Terms: (i, d) and (i, f) with d not f", () -> {
            faulty(3, PUSH, 0, ZERO, 3, PUSH, 0, REMOVE, 0, FAIL, 0);
            faulty(3, PUSH, 0, ZERO, 3, PUSH, 0, FAIL, 0);
            faulty(5, PUSH, 0, PUSH, 0, PUSH, 0, ZERO, 5, DROP, 0, END, 0);
            faulty(3, PUSH, 0, ZERO, 3, PUSH, 0, JUMP, 3);
        });
        sentence("Terms: two ways with one height", () -> {
            sound(PUSH, 0, ZERO, 4, REMOVE, 0, REMOVE, 0, FAIL, 0);
            sound(PUSH, 0, PUSH, 0, ZERO, 5, DROP, 0, PUSH, 7, END, 0);
            sound(PUSH, 0, PUSH, 0, PUSH, 0, PUSH, 0, ZERO, 3, FAIL, 0);
        });
        sentence("Terms: a loop that grows, and one that shrinks", () -> {
            faulty(0, PUSH, 0, JUMP, 0);
            faulty(1, PUSH, 0, DUP, 0, JUMP, 1);
            faulty(4, PUSH, 0, PUSH, 0, PUSH, 0, PUSH, 0, DROP, 0, JUMP, 4);
            sound(PUSH, 0, DROP, 0, JUMP, 0);
        });
    }

    private static void checkOfNextOnes() {
        for (int each = 0; each <= 23; each++) {
            int op = each;
            sentence("Terms: op " + op + " as the last instruction", () -> {
                boolean hasNext = op != JUMP && op != FAIL && op != END;
                for (int others : new int[] {2, 15}) {
                    Grid x = new Grid(0);
                    for (int i = 2; i < others; i++) {
                        x.due(true).code(REMOVE, 0);
                    }
                    draft(x, PUSH, 0, PUSH, 0, op, others);
                    x.due(hasNext ? FAULTY + others : OK).deploy(0);
                }
            });
        }
        sentence("Terms: JUMP to none of the program", () -> {
            for (long c : new long[] {-1, 3, 4, 15, 16, 17, 255, 256, 1L << 31, 1L << 32, (1L << 32) + 2, -(1L << 32), MIN, MAX}) {
                faulty(1, PUSH, 0, JUMP, c, FAIL, 0);
            }
        });
        sentence("Terms: ZERO to none of the program", () -> {
            for (long c : new long[] {-1, 3, 4, 15, 16, 17, 255, 256, 1L << 31, 1L << 32, (1L << 32) + 2, -(1L << 32), MIN, MAX}) {
                faulty(1, PUSH, 0, ZERO, c, FAIL, 0);
            }
        });
        sentence("Terms: JUMP and ZERO to the first and the last", () -> {
            sound(JUMP, 0);
            sound(PUSH, 0, JUMP, 2, FAIL, 0);
            sound(PUSH, 0, ZERO, 0, FAIL, 0);
            sound(PUSH, 0, ZERO, 2, FAIL, 0);
            sound(PUSH, 0, JUMP, 1);
        });
        sentence("Terms: JUMP and ZERO to 15 and 16 in a program of 16", () -> {
            for (int op : new int[] {JUMP, ZERO}) {
                for (int c = 15; c <= 16; c++) {
                    Grid x = new Grid(0);
                    draft(x, PUSH, 0, op, c);
                    for (int i = 2; i < 16; i++) {
                        x.due(true).code(FAIL, 0);
                    }
                    x.due(c == 15 ? OK : FAULTY + 1).deploy(0);
                }
            }
        });
        sentence("Terms: for ZERO both may be next", () -> {
            faulty(3, PUSH, 0, ZERO, 3, FAIL, 0, DROP, 0, FAIL, 0);
            faulty(2, PUSH, 0, ZERO, 3, DROP, 0, FAIL, 0);
        });
        sentence("Terms: for JUMP only c is next", () -> {
            sound(JUMP, 2, DROP, 0, FAIL, 0);
            faulty(2, JUMP, 2, FAIL, 0, DROP, 0, FAIL, 0);
        });
        sentence("Terms: END and FAIL have no next one", () -> {
            sound(FAIL, 0, DROP, 0);
            sound(PUSH, 0, END, 0, DROP, 0);
            sound(FAIL, 99);
            sound(PUSH, 0, END, 99);
        });
        sentence("Terms: c counts for PUSH, JUMP and ZERO alone", () -> {
            for (int op : new int[] {PUSH, OLD, HAS, ARG, ADD, SUB, MUL, DIV, REM, AND, XOR, SHL, SHR, USHR, LESS, DUP, SWAP, DROP,
                PUT, REMOVE, FAIL, END}) {
                sound(PUSH, 0, PUSH, 0, op, 99, FAIL, 0);
            }
        });
        sentence("Terms: an instruction that is in no pair is not faulty", () -> {
            sound(JUMP, 5, ADD, 0, JUMP, 99, ZERO, -1, PUSH, 0, FAIL, 0);
            sound(PUSH, 3, END, 0, ADD, 0, DROP, 0);
        });
        sentence("Terms: a pair that is found by many steps back", () -> {
            faulty(1, JUMP, 15, DROP, 0, JUMP, 1, JUMP, 2, JUMP, 3, JUMP, 4, JUMP, 5, JUMP, 6, JUMP, 7, JUMP, 8, JUMP, 9, JUMP, 10,
                JUMP, 11, JUMP, 12, JUMP, 13, JUMP, 14);
        });
        sentence("Terms: the least set goes on behind an instruction with two heights", () -> {
            // Three times round the loop from 2 to 4 before the DROPs find enough to come to instruction 1.
            faulty(1, JUMP, 2, JUMP, 99, PUSH, 0, HAS, 0, ZERO, 2, DROP, 0, DROP, 0, DROP, 0, JUMP, 1);
            faulty(2, JUMP, 2, JUMP, 99, PUSH, 0, HAS, 0, ZERO, 2, DROP, 0, DROP, 0, DROP, 0, DROP, 0, JUMP, 1);
        });
    }

    private static void leastFaulty() {
        sentence("3: the least faulty instruction plus 16: 0 and 15", () -> {
            faulty(0, DROP, 0, ADD, 0);
            Grid x = new Grid(0);
            for (int i = 0; i < 16; i++) {
                x.due(true).code(REMOVE, 0);
            }
            x.due(FAULTY + 15).deploy(0);
        });
        sentence("3: the least of several, though it is found last", () -> {
            faulty(1, JUMP, 2, ADD, 0, PUSH, 0, ZERO, 1, ADD, 0);
            faulty(1, JUMP, 3, JUMP, 99, FAIL, 0, PUSH, 0, ZERO, 1, PUSH, 0, ZERO, -1, DROP, 0);
            faulty(1, JUMP, 2, REMOVE, 0, PUSH, 0, ZERO, 1, PUSH, 0, DROP, 0, PUSH, 0, JUMP, 1);
        });
        sentence("3: the least of several, of each kind", () -> {
            faulty(1, PUSH, 0, ZERO, 9, ADD, 0);
            faulty(2, PUSH, 0, ZERO, 3, ADD, 0, DROP, 0);
            faulty(4, PUSH, 0, PUSH, 0, PUSH, 0, PUSH, 0, PUSH, 0, JUMP, 99);
            faulty(2, PUSH, 0, ZERO, 3, DROP, 0, JUMP, 99);
        });
    }

    // The instructions

    /** What a task answers on a key without an entry, with arg 0. */
    private static void answers(long want, long... opsAndCs) {
        Grid x = withMembers(0, 0);
        deploys(x, 0, opsAndCs);
        x.due(OK).submit(0, 0, 0, 0);
        x.due(want).result(0);
    }

    private static void fails(long... opsAndCs) {
        Grid x = withMembers(0, 0);
        deploys(x, 1, PUSH, 6, DUP, 0, PUT, 0, END, 0);
        deploys(x, 0, opsAndCs);
        x.due(OK).submit(0, 1, 0, 0);
        x.due(FAILED).submit(0, 0, 0, 0);
        x.due(0).result(0);
        entry(x, 0, 0, 6);
    }

    private static long[] behind(long[] rest, long... first) {
        return java.util.stream.LongStream.concat(java.util.Arrays.stream(first), java.util.Arrays.stream(rest)).toArray();
    }

    private static void binary(int op, long x, long y, long want) {
        answers(want, PUSH, x, PUSH, y, op, 0, END, 0);
    }

    private static void instructions() {
        sentence("0 PUSH c", () -> {
            for (long c : new long[] {MIN, -1, 0, 1, Integer.MAX_VALUE + 1L, MAX}) {
                answers(c, PUSH, c, END, 0);
            }
        });
        sentence("1 OLD: the view's value, 0 if it is not there", () -> {
            answers(0, OLD, 7, END, 0);
            answers(0, PUSH, 5, PUT, 0, REMOVE, 0, OLD, 0, END, 0);
            answers(5, PUSH, 5, PUT, 0, OLD, 0, END, 0);
            Grid x = withTasks(0, 0);
            deploys(x, 3, OLD, 0, END, 0);
            x.due(OK).submit(0, PUTS, 4, Integer.MIN_VALUE);
            x.due(OK).submit(0, 3, 4, 0);
            x.due(Integer.MIN_VALUE).result(0);
            x.due(OK).submit(0, REMOVES, 4, 0);
            x.due(OK).submit(0, 3, 4, 0);
            x.due(0).result(0);
        });
        sentence("2 HAS: 1 if it is there, else 0, whatever its value", () -> {
            answers(0, HAS, 7, END, 0);
            answers(1, PUSH, 0, PUT, 0, HAS, 0, END, 0);
            answers(1, PUSH, -9, PUT, 0, HAS, 0, END, 0);
            answers(0, PUSH, 5, PUT, 0, REMOVE, 0, HAS, 0, END, 0);
            answers(1, REMOVE, 0, PUSH, 0, PUT, 0, HAS, 0, END, 0);
        });
        sentence("1 OLD and 2 HAS: the view is of this key's entry, whatever ran before", () -> {
            Grid x = withTasks(0, 0);
            deploys(x, REMOVES, HAS, 0, END, 0);
            for (int key = 0; key < 18; key += 2) {
                x.due(OK).submit(0, PUTS, key, 5 + key);
            }
            for (int key = 0; key < 18; key++) {
                boolean isThere = key % 2 == 0;
                x.due(OK).submit(0, REMOVES, key, 0);
                x.due(isThere ? 1 : 0).result(0);
                x.due(isThere).present(0, key);
                x.due(FAILED).submit(0, FAILING, 17 - key, 9);
                x.due(OK).submit(0, ADDS, key, isThere ? 0 : 5 + key);
                x.due(5 + key).result(0);
            }
        });
        sentence("3 ARG: any int", () -> {
            for (int arg : new int[] {Integer.MIN_VALUE, -1, 0, 1, Integer.MAX_VALUE}) {
                Grid x = withTasks(0, 0);
                x.due(OK).submit(0, PUTS, 0, arg);
                x.due(arg).result(0);
                entry(x, 0, 0, arg);
            }
        });
        sentence("4 ADD, 5 SUB, 6 MUL as Java does for longs: wrap-around", () -> {
            binary(ADD, MAX, 1, MIN);
            binary(ADD, MIN, -1, MAX);
            binary(ADD, Integer.MAX_VALUE, 1, 1L << 31);
            binary(SUB, MIN, 1, MAX);
            binary(SUB, 0, MIN, MIN);
            binary(SUB, 3, 5, -2);
            binary(MUL, MAX, 2, -2);
            binary(MUL, MIN, -1, MIN);
            binary(MUL, 1L << 32, 1L << 32, 0);
            binary(MUL, 1L << 31, 2, 1L << 32);
        });
        sentence("7 DIV, 8 REM: towards 0, and the least long by -1", () -> {
            binary(DIV, MIN, -1, MIN);
            binary(REM, MIN, -1, 0);
            binary(DIV, -7, 2, -3);
            binary(REM, -7, 2, -1);
            binary(DIV, 7, -2, -3);
            binary(REM, 7, -2, 1);
            binary(DIV, 0, 5, 0);
            binary(REM, 0, -5, 0);
            binary(DIV, MAX, MIN, 0);
            binary(REM, MAX, MIN, MAX);
            binary(DIV, 5, 1L << 32, 0);
        });
        sentence("7 DIV with y = 0: the task FAILS", () -> {
            for (long x : new long[] {MIN, -1, 0, 1, MAX}) {
                fails(PUSH, 8, PUT, 0, PUSH, x, PUSH, 0, DIV, 0, END, 0);
            }
        });
        sentence("8 REM with y = 0: the task FAILS", () -> {
            for (long x : new long[] {MIN, -1, 0, 1, MAX}) {
                fails(PUSH, 8, PUT, 0, PUSH, x, PUSH, 0, REM, 0, END, 0);
            }
        });
        sentence("9 AND, 10 XOR", () -> {
            binary(AND, 12, 10, 8);
            binary(AND, -1, MIN, MIN);
            binary(AND, 5, 0, 0);
            binary(XOR, 12, 10, 6);
            binary(XOR, -1, MAX, MIN);
            binary(XOR, 7, 0, 7);
        });
        sentence("11 SHL, 12 SHR, 13 USHR by the low 6 bits of y", () -> {
            for (long y : new long[] {1, 65, -63, (1L << 32) + 1, MIN + 1}) {
                binary(SHL, 3, y, 6);
                binary(SHR, -4, y, -2);
                binary(USHR, -4, y, MAX - 1);
            }
            for (long y : new long[] {0, 64, -64, 1L << 32, MIN}) {
                binary(SHL, -5, y, -5);
                binary(SHR, -5, y, -5);
                binary(USHR, -5, y, -5);
            }
            for (long y : new long[] {63, -1, 127, MAX}) {
                binary(SHL, 1, y, MIN);
                binary(SHR, MIN, y, -1);
                binary(USHR, MIN, y, 1);
            }
            for (long y : new long[] {32, 33}) {
                binary(SHL, 1, y, 1L << y);
                binary(SHR, MIN, y, -1L << 63 - y);
                binary(USHR, MIN, y, 1L << 63 - y);
            }
        });
        sentence("14 LESS pushes 1 or 0", () -> {
            binary(LESS, 1, 2, 1);
            binary(LESS, 2, 2, 0);
            binary(LESS, 3, 2, 0);
            binary(LESS, MIN, MAX, 1);
            binary(LESS, MAX, MIN, 0);
            binary(LESS, -1, 0, 1);
            binary(LESS, 1L << 32, 1, 0);
        });
        sentence("15 DUP, 16 SWAP, 17 DROP on a low and a full stack", () -> {
            answers(49, PUSH, 7, DUP, 0, MUL, 0, END, 0);
            answers(4, PUSH, 1, PUSH, 2, PUSH, 4, DUP, 0, DROP, 0, END, 0);
            answers(8, PUSH, 1, PUSH, 2, PUSH, 4, DUP, 0, ADD, 0, END, 0);
            answers(2, PUSH, 1, PUSH, 2, PUSH, 4, DUP, 0, DROP, 0, DROP, 0, END, 0);
            answers(-2, PUSH, 3, PUSH, 1, SWAP, 0, SUB, 0, END, 0);
            answers(-1, PUSH, 9, PUSH, 9, PUSH, 5, PUSH, 4, SWAP, 0, SUB, 0, END, 0);
            answers(4, PUSH, 3, PUSH, 4, SWAP, 0, DROP, 0, END, 0);
            answers(3, PUSH, 3, PUSH, 4, DROP, 0, END, 0);
            answers(1, PUSH, 1, PUSH, 2, PUSH, 3, PUSH, 4, DROP, 0, DROP, 0, DROP, 0, END, 0);
        });
        sentence("Terms: what is taken is gone: the stack has room for four again", () -> {
            long[] rest = {PUSH, 5, PUSH, 6, PUSH, 7, PUSH, 8, SUB, 0, MUL, 0, ADD, 0, END, 0};
            answers(-1, rest);
            answers(-1, behind(rest, PUSH, 1, DROP, 0));
            answers(-1, behind(rest, PUSH, 1, PUT, 0));
            answers(-1, behind(rest, PUSH, 1, ZERO, 0));
            answers(-1, behind(rest, PUSH, 2, PUSH, 1, ADD, 0, DROP, 0));
            answers(-1, behind(rest, PUSH, 2, PUSH, 1, DIV, 0, DROP, 0));
            answers(-1, behind(rest, PUSH, 2, PUSH, 1, REM, 0, DROP, 0));
            answers(-1, behind(rest, PUSH, 2, PUSH, 1, LESS, 0, DROP, 0));
            answers(-1, behind(rest, PUSH, 2, PUSH, 1, SWAP, 0, DROP, 0, DROP, 0));
        });
        sentence("18 PUT: takes the top; the entry is there with it", () -> {
            Grid x = withMembers(0, 0);
            deploys(x, 0, PUSH, 3, PUSH, 4, PUT, 0, END, 0);
            deploys(x, 1, PUSH, 8, PUT, 0, PUSH, 0, PUT, 0, PUSH, 2, END, 0);
            x.due(OK).submit(0, 0, 0, 0);
            x.due(3).result(0);
            entry(x, 0, 0, 4);
            x.due(OK).submit(0, 1, 0, 0);
            x.due(2).result(0);
            entry(x, 0, 0, 0);
            x.due(OK).submit(0, 1, 6, 0);
            entry(x, 0, 6, 0);
        });
        sentence("19 REMOVE: the entry is not there, also if it was not", () -> {
            Grid x = withTasks(0, 0);
            deploys(x, 3, PUSH, 3, REMOVE, 0, END, 0);
            x.due(OK).submit(0, 3, 0, 0);
            x.due(3).result(0);
            noEntry(x, 0, 0);
            x.due(OK).submit(0, PUTS, 0, 5);
            x.due(OK).submit(0, PUTS, 6, 6);
            x.due(OK).submit(0, 3, 0, 0);
            noEntry(x, 0, 0);
            entry(x, 0, 6, 6);
        });
        sentence("20 JUMP c: instruction c is next", () -> {
            answers(2, PUSH, 2, JUMP, 3, FAIL, 0, END, 0);
            answers(7, JUMP, 3, PUSH, 7, END, 0, JUMP, 1);
        });
        sentence("21 ZERO c: takes the top; c is next if it is 0", () -> {
            answers(2, PUSH, 2, PUSH, 0, ZERO, 4, FAIL, 0, END, 0);
            for (long top : new long[] {MIN, -1, 1, 1L << 31, 1L << 32, MAX}) {
                answers(3, PUSH, 3, PUSH, top, ZERO, 4, END, 0, FAIL, 0);
            }
        });
        sentence("22 FAIL: the task FAILS", () -> {
            fails(FAIL, 0);
            fails(PUSH, 8, PUT, 0, PUSH, 9, PUSH, 9, PUSH, 9, PUSH, 9, FAIL, 0);
            fails(REMOVE, 0, FAIL, 0);
        });
        sentence("23 END: takes the top: the result", () -> {
            answers(4, PUSH, 1, PUSH, 2, PUSH, 3, PUSH, 4, END, 0);
            answers(1, PUSH, 1, END, 9, PUSH, 2, END, 0);
        });
    }
}
