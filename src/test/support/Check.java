/** What the tests share: the document's words as numbers, the report of what is wrong, and grids to begin with. */
abstract class Check {
    static final int OK = 0, FAILED = 1, FORCED = 2, NO_TASK = 3, NO_MEMBER = 4, LOST = 5, BAD = -1, FAULTY = 16;
    static final int PUSH = 0, OLD = 1, HAS = 2, ARG = 3, ADD = 4, SUB = 5, MUL = 6, DIV = 7, REM = 8, AND = 9, XOR = 10;
    static final int SHL = 11, SHR = 12, USHR = 13, LESS = 14, DUP = 15, SWAP = 16, DROP = 17, PUT = 18, REMOVE = 19;
    static final int JUMP = 20, ZERO = 21, FAIL = 22, END = 23;
    static final long MIN = Long.MIN_VALUE, MAX = Long.MAX_VALUE;

    /** Task numbers of {@link #withTasks}. */
    static final int ADDS = 0, PUTS = 1, REMOVES = 2, FAILING = 3;

    private static final int SHOWN_OF_A_SENTENCE = 5;
    private static final int MILLISECONDS = 300_000;

    private static String sentence = "";
    private static int wrongInSentence = 0;
    private static int wrong = 0;

    /** One sentence of the document, with the test of it alone. */
    static void sentence(String words, Runnable test) {
        sentence = words;
        wrongInSentence = 0;
        try {
            test.run();
        } catch (RuntimeException | StackOverflowError e) {
            report("a call threw " + e);
        }
    }

    static void report(String what) {
        wrong++;
        wrongInSentence++;
        if (sentence.isEmpty() || wrongInSentence <= SHOWN_OF_A_SENTENCE) {
            System.out.println(sentence.isEmpty() ? what : "[" + sentence + "] " + what);
        }
    }

    /** A call that never ends must not keep the other tests from being told. */
    static void begin() {
        Thread watch = new Thread(() -> {
            try {
                Thread.sleep(MILLISECONDS);
            } catch (InterruptedException e) {
                return;
            }
            System.out.println(sentence + " did not end");
            Runtime.getRuntime().halt(1);
        });
        watch.setDaemon(true);
        watch.start();
    }

    static void end() {
        System.out.println(wrong == 0 ? "all answers are as due" : wrong + " answers are not as due");
        if (wrong != 0) {
            System.exit(1);
        }
    }

    /** Appends op, c, op, c, .. to the draft. */
    static void draft(Grid x, long... opsAndCs) {
        for (int i = 0; i < opsAndCs.length; i += 2) {
            x.due(true).code(opsAndCs[i], opsAndCs[i + 1]);
        }
    }

    static void deploys(Grid x, int t, long... opsAndCs) {
        draft(x, opsAndCs);
        x.due(OK).deploy(t);
    }

    /** Members that join in this order, and every partition with its wanted list. */
    static Grid withMembers(int backups, int... members) {
        Grid x = new Grid(backups);
        for (int m : members) {
            x.due(true).join(m);
        }
        migrateAll(x);
        return x;
    }

    static void migrateAll(Grid x) {
        int last = 0;
        for (int i = 0; i < 7 && last != -1; i++) {
            last = x.migrate();
        }
        if (last != -1) {
            report("migrate() still finds partition " + last + " after seven calls");
        }
    }

    /** Task 0 adds the arg to the entry, 1 puts the arg there, 2 removes the entry, 3 puts the arg and then fails. */
    static Grid withTasks(int backups, int... members) {
        Grid x = withMembers(backups, members);
        deploys(x, ADDS, OLD, 0, ARG, 0, ADD, 0, DUP, 0, PUT, 0, END, 0);
        deploys(x, PUTS, ARG, 0, DUP, 0, PUT, 0, END, 0);
        deploys(x, REMOVES, REMOVE, 0, OLD, 0, END, 0);
        deploys(x, FAILING, ARG, 0, PUT, 0, FAIL, 0);
        return x;
    }

    /** The lists of the partitions 0..5: owner, copies, owner, copies, .. */
    static void lists(Grid x, int... ownersAndSets) {
        for (int p = 0; p < 6; p++) {
            x.due(ownersAndSets[2 * p]).owner(p);
            x.due(ownersAndSets[2 * p + 1]).copies(p);
        }
    }

    static void allLists(Grid x, int owner, int set) {
        lists(x, owner, set, owner, set, owner, set, owner, set, owner, set, owner, set);
    }

    static void entry(Grid x, int m, int key, long value) {
        x.due(true).present(m, key);
        x.due(value).value(m, key);
    }

    static void noEntry(Grid x, int m, int key) {
        x.due(false).present(m, key);
        x.due(0).value(m, key);
    }

    /** What is seen of a client: its result, and how many requests were executed in all. */
    static void seen(Grid x, int client, long result, int executed) {
        x.due(result).result(client);
        x.due(executed).executed();
    }
}
