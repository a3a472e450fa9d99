// The boundary cases of requests: promises 8 to 11 and 17 and the sending of a request, a test for each sentence.
public final class RequestEdgesTest extends Check {
    private static final int[] NO_CLIENTS = {Integer.MIN_VALUE, -256, -3, -1, 3, 4, 18, 256, Integer.MAX_VALUE};
    private static final int[] NO_KEYS = {Integer.MIN_VALUE, -256, -18, -6, -1, 18, 19, 24, 256, Integer.MAX_VALUE};
    private static final int[] NO_FAULTS = {Integer.MIN_VALUE, -256, -1, 5, 6, 8, 256, 257, Integer.MAX_VALUE};

    public static void main(String[] args) {
        begin();
        fault();
        submit();
        retry();
        result();
        noMember();
        requestLost();
        records();
        endings();
        ownerGoesBefore();
        ownerGoesAfter();
        answerLost();
        executed();
        end();
    }

    private static void submitWith(Grid x, int kind, int client, int task, int key, int arg) {
        x.due(true).fault(kind);
        x.due(LOST).submit(client, task, key, arg);
    }

    private static void retryWith(Grid x, int kind, int client) {
        x.due(true).fault(kind);
        x.due(LOST).retry(client);
    }

    // Promise 8

    /** Which fault the next sending has, told by what becomes of a request for key 0 that adds 5. */
    private static void hasFault(Grid x, int kind, int client) {
        int owner = x.owner(0);
        long before = x.value(owner, 0);
        int executed = x.executed();
        x.due(kind == 0 ? OK : LOST).submit(client, ADDS, 0, 5);
        x.due(executed + (kind == 1 ? 0 : 1)).executed();
        boolean ownerGone = kind == 2 || kind == 3;
        x.due(ownerGone ? (owner + 1) % 5 : owner).owner(0);
        x.due(before + (kind == 1 || kind == 2 ? 0 : 5)).value(ownerGone ? (owner + 1) % 5 : owner, 0);
        x.due(ownerGone).join(owner);
    }

    private static void fault() {
        sentence("8: true for 0 to 4: the next sending has this fault", () -> {
            for (int kind = 0; kind <= 4; kind++) {
                Grid x = withTasks(1, 0, 1, 2, 3, 4);
                x.due(true).fault(kind);
                hasFault(x, kind, 0);
            }
        });
        sentence("8: false if kind is not 0..4", () -> {
            Grid x = new Grid(0);
            for (int kind : NO_FAULTS) {
                x.due(false).fault(kind);
            }
        });
        sentence("8: nothing changes if kind is not 0..4: the fault that was set stays", () -> {
            for (int kind = 0; kind <= 4; kind++) {
                for (int refused : NO_FAULTS) {
                    Grid x = withTasks(1, 0, 1, 2, 3, 4);
                    x.due(true).fault(kind);
                    x.due(false).fault(refused);
                    hasFault(x, kind, 0);
                    hasFault(x, 0, 0);
                }
            }
        });
        sentence("8: nothing changes if kind is not 0..4: no fault was set", () -> {
            for (int refused : NO_FAULTS) {
                Grid x = withTasks(1, 0, 1, 2, 3, 4);
                x.due(false).fault(refused);
                hasFault(x, 0, 0);
            }
        });
        sentence("8: the fault that is set last counts, and 0 takes it back", () -> {
            for (int first = 0; first <= 4; first++) {
                for (int second = 0; second <= 4; second++) {
                    Grid x = withTasks(1, 0, 1, 2, 3, 4);
                    x.due(true).fault(first);
                    x.due(true).fault(second);
                    hasFault(x, second, 0);
                }
            }
        });
        sentence("Terms: the fault is then 0 again", () -> {
            for (int kind = 0; kind <= 4; kind++) {
                Grid x = withTasks(1, 0, 1, 2, 3, 4);
                x.due(true).fault(kind);
                hasFault(x, kind, 0);
                hasFault(x, 0, 1);
                hasFault(x, 0, 0);
            }
        });
        sentence("Terms: the fault is 0 again after a sending that found no member", () -> {
            for (int kind = 0; kind <= 4; kind++) {
                Grid x = withTasks(1, 0);
                x.due(true).crash(0);
                x.due(true).fault(kind);
                x.due(NO_MEMBER).submit(0, ADDS, 0, 5);
                x.due(true).join(0);
                hasFault(x, 0, 1);
            }
        });
        sentence("Terms: the fault is 0 again after a sending that used the record", () -> {
            for (int kind = 1; kind <= 4; kind++) {
                Grid x = withTasks(2, 0, 1, 2, 3, 4);
                submitWith(x, 4, 0, ADDS, 0, 5);
                retryWith(x, kind, 0);
                x.due(OK).retry(0);
                seen(x, 0, 5, 1);
            }
        });
        sentence("8: a retry is a sending too", () -> {
            for (int kind = 1; kind <= 4; kind++) {
                Grid x = withTasks(1, 0, 1, 2, 3, 4);
                submitWith(x, 1, 0, ADDS, 0, 5);
                retryWith(x, kind, 0);
                x.due(kind == 1 ? 0 : 1).executed();
                x.due(kind == 2 || kind == 3 ? 1 : 0).owner(0);
                x.due(kind >= 3 ? 5 : 0).value(1, 0);
            }
        });
        sentence("8: the fault stays through calls that send nothing", () -> {
            for (int kind = 0; kind <= 4; kind++) {
                Grid x = withTasks(1, 0, 1, 2, 3);
                x.due(true).fault(kind);
                x.due(true).join(4);
                migrateAll(x);
                deploys(x, FAILING, FAIL, 0);
                x.due(true).crash(3);
                x.due(true).join(3);
                x.due(true).leave(4);
                x.due(true).join(4);
                x.due(BAD).submit(3, ADDS, 0, 5);
                x.due(BAD).submit(0, ADDS, 18, 5);
                x.due(BAD).retry(0);
                x.due(0).result(0);
                hasFault(x, kind, 0);
            }
        });
        sentence("8: the next sending of any client has it", () -> {
            for (int client = 0; client < 3; client++) {
                for (int kind = 1; kind <= 4; kind++) {
                    Grid x = withTasks(1, 0, 1, 2, 3, 4);
                    x.due(OK).submit((client + 1) % 3, PUTS, 0, 1);
                    x.due(true).fault(kind);
                    hasFault(x, kind, client);
                }
            }
        });
    }

    // Promise 9

    private static void submit() {
        sentence("9: BAD if client is not 0..2", () -> {
            Grid x = withTasks(0, 0);
            for (int client : NO_CLIENTS) {
                x.due(BAD).submit(client, PUTS, 0, 1);
            }
            noEntry(x, 0, 0);
            x.due(0).executed();
        });
        sentence("9: BAD if key is not 0..17", () -> {
            Grid x = withTasks(0, 0);
            for (int key : NO_KEYS) {
                x.due(BAD).submit(0, PUTS, key, 1);
            }
            x.due(0).executed();
            for (int key = 0; key < 18; key++) {
                noEntry(x, 0, key);
            }
        });
        sentence("9: BAD if neither is one, and with no member", () -> {
            Grid x = new Grid(0);
            for (int client : NO_CLIENTS) {
                x.due(BAD).submit(client, 0, 0, 0);
                x.due(BAD).submit(client, 0, 18, 0);
            }
            for (int key : NO_KEYS) {
                x.due(BAD).submit(0, 0, key, 0);
            }
        });
        sentence("9: nothing changes: the client has no request by it", () -> {
            for (int key : NO_KEYS) {
                for (int client = 0; client < 3; client++) {
                    Grid x = withTasks(0, 0);
                    x.due(BAD).submit(client, PUTS, key, 1);
                    x.due(BAD).retry(client);
                }
            }
        });
        sentence("9: nothing changes: a request that was not answered stays the latest, as it was", () -> {
            for (int key : NO_KEYS) {
                Grid x = withTasks(0, 0);
                x.due(OK).submit(0, PUTS, 7, 100);
                submitWith(x, 1, 1, ADDS, 7, 5);
                x.due(BAD).submit(1, PUTS, key, 6);
                x.due(BAD).submit(3, PUTS, 2, 6);
                x.due(OK).retry(1);
                seen(x, 1, 105, 2);
                entry(x, 0, 7, 105);
                noEntry(x, 0, 2);
            }
        });
        sentence("9: nothing changes: the number stays, so that the record still counts", () -> {
            for (int key : NO_KEYS) {
                Grid x = withTasks(0, 0);
                submitWith(x, 4, 1, ADDS, 7, 5);
                x.due(BAD).submit(1, ADDS, key, 5);
                x.due(OK).retry(1);
                seen(x, 1, 5, 1);
                entry(x, 0, 7, 5);
            }
        });
        sentence("9: nothing changes: an answered request stays answered, and the result stays", () -> {
            for (int key : NO_KEYS) {
                Grid x = withTasks(0, 0);
                x.due(OK).submit(1, ADDS, 7, 5);
                x.due(BAD).submit(1, ADDS, key, 6);
                seen(x, 1, 5, 1);
                x.due(BAD).retry(1);
            }
        });
        sentence("9: the clients 0, 1, 2 and the keys 0 and 17", () -> {
            for (int client = 0; client < 3; client++) {
                Grid x = withTasks(0, 0);
                x.due(OK).submit(client, PUTS, 0, 1);
                x.due(OK).submit(client, PUTS, 17, 2);
                entry(x, 0, 0, 1);
                entry(x, 0, 17, 2);
                x.due(2).result(client);
            }
        });
        sentence("9: any int is a task", () -> {
            for (int task : new int[] {Integer.MIN_VALUE, -16, -1, 4, 5, 16, 256, Integer.MAX_VALUE}) {
                Grid x = withTasks(1, 0, 1);
                x.due(NO_TASK).submit(0, task, 0, 1);
                seen(x, 0, 0, 1);
                x.due(BAD).retry(0);
            }
        });
        sentence("9: any int is an arg", () -> {
            for (int arg : new int[] {Integer.MIN_VALUE, -1, Integer.MAX_VALUE}) {
                Grid x = withTasks(0, 0);
                x.due(OK).submit(0, ADDS, 0, arg);
                x.due(OK).submit(0, ADDS, 0, arg);
                x.due(2L * arg).result(0);
            }
        });
        sentence("9: the client's next request: it takes the place of one that was not answered", () -> {
            Grid x = withTasks(0, 0);
            submitWith(x, 1, 0, PUTS, 3, 6);
            submitWith(x, 1, 0, ADDS, 9, 7);
            x.due(OK).retry(0);
            noEntry(x, 0, 3);
            entry(x, 0, 9, 7);
            x.due(BAD).retry(0);
        });
    }

    // Promise 10

    private static void retry() {
        sentence("10: BAD, and nothing changes, if client is not 0..2", () -> {
            for (int client : NO_CLIENTS) {
                Grid x = withTasks(0, 0);
                for (int other = 0; other < 3; other++) {
                    submitWith(x, 1, other, ADDS, other, 5);
                }
                x.due(BAD).retry(client);
                x.due(0).executed();
                for (int other = 0; other < 3; other++) {
                    noEntry(x, 0, other);
                    x.due(OK).retry(other);
                    entry(x, 0, other, 5);
                }
            }
        });
        sentence("10: BAD, and nothing changes, if it has no request", () -> {
            for (int client = 0; client < 3; client++) {
                Grid x = withTasks(1, 0, 1, 2, 3, 4);
                submitWith(x, 1, (client + 1) % 3, PUTS, 1, 6);
                x.due(true).fault(4);
                x.due(BAD).retry(client);
                seen(x, client, 0, 0);
                hasFault(x, 4, client);
                x.due(OK).retry(client);
                x.due(OK).retry((client + 1) % 3);
            }
        });
        sentence("10: BAD, and nothing changes, if its latest was answered: with every code", () -> {
            for (int task = 0; task <= 4; task++) {
                for (int kind = 0; kind <= 4; kind++) {
                    Grid x = withTasks(1, 0, 1, 2, 3, 4);
                    x.due(task == FAILING ? FAILED : task == 4 ? NO_TASK : OK).submit(0, task, 6, 5);
                    x.due(true).fault(kind);
                    x.due(BAD).retry(0);
                    seen(x, 0, task <= PUTS ? 5 : 0, 1);
                    x.due(task <= PUTS).present(0, 6);
                    x.due(task <= PUTS).present(1, 6);
                    hasFault(x, kind, 1);
                }
            }
        });
        sentence("10: BAD if its latest was answered by a retry", () -> {
            Grid x = withTasks(0, 0);
            submitWith(x, 1, 0, ADDS, 0, 5);
            x.due(OK).retry(0);
            x.due(BAD).retry(0);
            x.due(BAD).retry(0);
            seen(x, 0, 5, 1);
        });
        sentence("10: BAD if its latest was answered FORCED", () -> {
            Grid x = withMembers(0, 0);
            deploys(x, 0, JUMP, 0);
            x.due(FORCED).submit(0, 0, 0, 0);
            x.due(BAD).retry(0);
            x.due(1).executed();
        });
        sentence("10: an earlier answer does not count for the latest request", () -> {
            Grid x = withTasks(0, 0);
            x.due(OK).submit(0, ADDS, 0, 5);
            submitWith(x, 1, 0, ADDS, 0, 6);
            x.due(OK).retry(0);
            seen(x, 0, 11, 2);
        });
        sentence("10: the answer of one client does not count for another", () -> {
            Grid x = withTasks(0, 0);
            submitWith(x, 1, 0, ADDS, 0, 5);
            x.due(OK).submit(1, ADDS, 0, 6);
            x.due(OK).submit(2, ADDS, 0, 7);
            x.due(OK).retry(0);
            seen(x, 0, 18, 3);
        });
        sentence("10: sent again as often as it gets no answer, with its task, key and arg", () -> {
            Grid x = withTasks(2, 0, 1, 2, 3, 4);
            submitWith(x, 1, 2, ADDS, 17, -3);
            for (int i = 0; i < 20; i++) {
                retryWith(x, i % 2 == 0 ? 1 : 4, 2);
            }
            x.due(OK).retry(2);
            seen(x, 2, -3, 1);
            entry(x, 0, 17, -3);
        });
    }

    // Promise 11

    private static void result() {
        sentence("11: 0 if client is not 0..2", () -> {
            Grid x = withTasks(0, 0);
            for (int client = 0; client < 3; client++) {
                x.due(OK).submit(client, PUTS, 0, 9);
            }
            for (int client : NO_CLIENTS) {
                x.due(0).result(client);
            }
        });
        sentence("11: 0 if there is none: no request, or none that was answered", () -> {
            for (int client = 0; client < 3; client++) {
                Grid x = withTasks(2, 0, 1, 2, 3, 4);
                x.due(OK).submit((client + 1) % 3, PUTS, 0, 9);
                x.due(0).result(client);
                x.due(0).result((client + 2) % 3);
                for (int kind : new int[] {1, 4, 3, 2}) {
                    submitWith(x, kind, client, PUTS, 0, 8);
                    x.due(0).result(client);
                }
                x.due(9).result((client + 1) % 3);
            }
        });
        sentence("11: that of the latest answered, not of the latest", () -> {
            for (int kind = 1; kind <= 4; kind++) {
                Grid x = withTasks(2, 0, 1, 2, 3, 4);
                x.due(OK).submit(0, PUTS, 0, 9);
                submitWith(x, kind, 0, PUTS, 0, 8);
                x.due(9).result(0);
                x.due(OK).retry(0);
                x.due(8).result(0);
            }
        });
        sentence("11: with no member the result stays", () -> {
            Grid x = withTasks(2, 0);
            x.due(OK).submit(0, PUTS, 0, 9);
            x.due(true).crash(0);
            x.due(9).result(0);
            x.due(NO_MEMBER).submit(0, PUTS, 0, 8);
            x.due(9).result(0);
        });
        sentence("11: 0 after an answer that is not OK", () -> {
            Grid x = withTasks(0, 0);
            deploys(x, REMOVES, PUSH, 5, DUP, 0, DROP, 0, DROP, 0, JUMP, 0);
            for (int task : new int[] {FAILING, 4, REMOVES}) {
                x.due(OK).submit(0, PUTS, 0, 9);
                x.due(9).result(0);
                x.due(task == FAILING ? FAILED : task == 4 ? NO_TASK : FORCED).submit(0, task, 0, 8);
                x.due(0).result(0);
            }
        });
        sentence("11: each client has its own", () -> {
            Grid x = withTasks(0, 0);
            for (int client = 0; client < 3; client++) {
                x.due(OK).submit(client, PUTS, 0, 10 + client);
            }
            for (int client = 0; client < 3; client++) {
                x.due(10 + client).result(client);
            }
        });
        sentence("11: any long", () -> {
            Grid x = withMembers(0, 0);
            deploys(x, 0, PUSH, MIN, END, 0);
            deploys(x, 1, PUSH, MAX, END, 0);
            x.due(OK).submit(0, 0, 0, 0);
            submitWith(x, 4, 1, 1, 0, 0);
            x.due(OK).retry(1);
            x.due(MIN).result(0);
            x.due(MAX).result(1);
        });
    }

    // Terms: sending

    private static void noMember() {
        sentence("Terms: no member is live: NO_MEMBER, whatever the fault", () -> {
            for (int kind = 0; kind <= 4; kind++) {
                Grid x = new Grid(2);
                x.due(true).fault(kind);
                x.due(NO_MEMBER).submit(0, 0, 0, 0);
                x.due(true).fault(kind);
                x.due(NO_MEMBER).retry(0);
                x.due(0).executed();
                x.due(0).lost();
                allLists(x, -1, 0);
            }
        });
        sentence("Terms: NO_MEMBER is no answer: the request can be sent again, and has its number", () -> {
            Grid x = withTasks(0, 0);
            x.due(true).leave(0);
            x.due(NO_MEMBER).submit(2, ADDS, 5, 4);
            x.due(NO_MEMBER).retry(2);
            x.due(true).join(3);
            x.due(true).fault(4);
            x.due(LOST).retry(2);
            x.due(OK).retry(2);
            seen(x, 2, 4, 1);
            entry(x, 3, 5, 4);
        });
    }

    private static void requestLost() {
        sentence("Terms: fault 1: LOST, nothing else happens", () -> {
            Grid x = withTasks(1, 0, 1, 2, 3, 4);
            x.due(OK).submit(0, PUTS, 0, 9);
            submitWith(x, 1, 0, ADDS, 0, 5);
            seen(x, 0, 9, 1);
            entry(x, 0, 0, 9);
            entry(x, 1, 0, 9);
            lists(x, 0, 3, 1, 6, 2, 12, 3, 24, 4, 17, 0, 3);
            x.due(0).lost();
            x.due(OK).retry(0);
            seen(x, 0, 14, 2);
        });
        sentence("Terms: fault 1 also where the record has the number", () -> {
            Grid x = withTasks(1, 0, 1, 2, 3, 4);
            submitWith(x, 4, 0, ADDS, 0, 5);
            retryWith(x, 1, 0);
            seen(x, 0, 0, 1);
            x.due(0).owner(0);
            x.due(OK).retry(0);
            seen(x, 0, 5, 1);
        });
        sentence("Terms: fault 1 also where there is no such task", () -> {
            Grid x = withMembers(0, 0);
            submitWith(x, 1, 0, 9, 0, 0);
            x.due(0).executed();
            x.due(NO_TASK).retry(0);
        });
    }

    private static void records() {
        sentence("Terms: the record's code and result are used: each code", () -> {
            int[] codes = {OK, FAILED, NO_TASK, FORCED};
            for (int task = 0; task < 4; task++) {
                Grid x = withMembers(1, 0, 1, 2);
                deploys(x, 0, PUSH, 7, PUT, 0, PUSH, 6, END, 0);
                deploys(x, 1, PUSH, 7, PUT, 0, FAIL, 0);
                deploys(x, 3, PUSH, 7, PUT, 0, JUMP, 0);
                submitWith(x, 4, 0, task, 0, 0);
                // Whatever the tasks and the entry are now, the request was executed.
                for (int t = 0; t < 4; t++) {
                    deploys(x, t, PUSH, 40, DUP, 0, PUT, 0, END, 0);
                }
                x.due(OK).submit(1, 1, 0, 0);
                x.due(codes[task]).retry(0);
                seen(x, 0, task == 0 ? 6 : 0, 2);
                entry(x, 0, 0, 40);
                entry(x, 1, 0, 40);
            }
        });
        sentence("Terms: a record with another number is not used", () -> {
            for (int client = 0; client < 3; client++) {
                Grid x = withTasks(0, 0);
                for (int i = 1; i <= 5; i++) {
                    x.due(OK).submit(client, ADDS, 0, 5);
                    seen(x, client, 5 * i, i);
                }
            }
        });
        sentence("Terms: numbers that are far apart are different", () -> {
            for (int apart : new int[] {2, 4, 8, 16, 32, 64, 128, 256}) {
                Grid x = withTasks(0, 0);
                x.due(OK).submit(0, ADDS, 0, 5);
                for (int i = 1; i < apart; i++) {
                    x.due(OK).submit(0, PUTS, 1, i);
                }
                x.due(OK).submit(0, ADDS, 0, 5);
                seen(x, 0, 10, apart + 1);
            }
        });
        sentence("Terms: the record is of this client", () -> {
            for (int client = 0; client < 3; client++) {
                Grid x = withTasks(0, 0);
                submitWith(x, 4, client, ADDS, 0, 5);
                x.due(OK).submit((client + 1) % 3, ADDS, 0, 20);
                x.due(OK).submit((client + 2) % 3, ADDS, 0, 300);
                x.due(25).result((client + 1) % 3);
                x.due(325).result((client + 2) % 3);
                x.due(OK).retry(client);
                seen(x, client, 5, 3);
                entry(x, 0, 0, 325);
            }
        });
        sentence("Terms: the record is of this partition: one of another one is not used", () -> {
            Grid x = withTasks(0, 0);
            for (int key = 0; key < 18; key++) {
                x.due(OK).submit(0, ADDS, key, 5);
                seen(x, 0, 5, key + 1);
            }
        });
        sentence("Terms: the record of a client is one for the keys of a partition: the latest that was executed there", () -> {
            Grid x = withTasks(0, 0);
            x.due(OK).submit(0, ADDS, 0, 5);
            submitWith(x, 4, 0, ADDS, 6, 7);
            x.due(OK).retry(0);
            seen(x, 0, 7, 2);
            submitWith(x, 1, 0, ADDS, 12, 8);
            x.due(OK).retry(0);
            seen(x, 0, 8, 3);
        });
        sentence("Terms: a request of a client in another partition leaves the record", () -> {
            Grid x = withTasks(0, 0);
            for (int key = 0; key < 6; key++) {
                submitWith(x, 4, 0, ADDS, key, 5);
                submitWith(x, 4, 1, ADDS, key + 6, 6);
                x.due(OK).submit(2, ADDS, (key + 1) % 6, 7);
                x.due(OK).retry(0);
                x.due(OK).retry(1);
                x.due(3 * key + 3).executed();
            }
        });
        sentence("Terms: what is not in the record is executed as the task is now", () -> {
            Grid x = withMembers(0, 0);
            submitWith(x, 1, 0, 2, 0, 0);
            deploys(x, 2, PUSH, 4, END, 0);
            x.due(OK).retry(0);
            seen(x, 0, 4, 1);
        });
        sentence("What it is: 512 calls of one object, of submit and retry", () -> {
            Grid x = withMembers(0, 0);
            deploys(x, 0, OLD, 0, PUSH, 1, ADD, 0, DUP, 0, PUT, 0, END, 0);
            int before = x.answers().size();
            for (int i = before; i < 507; i++) {
                x.due(OK).submit(0, 0, 0, 0);
            }
            submitWith(x, 4, 0, 0, 0, 0);
            x.due(OK).retry(0);
            x.due(508 - before).result(0);
            x.due(508 - before).executed();
        });
    }

    // Terms: how a task ends

    /** Puts 9, runs through a loop and comes to the two instructions at the end as the numbers last - 1 and last. */
    private static Grid atLast(int last, int... tail) {
        Grid x = withMembers(1, 0, 1);
        deploys(x, 1, PUSH, 3, DUP, 0, PUT, 0, END, 0);
        x.due(OK).submit(0, 1, 2, 0);
        int pads = last - 77;
        draft(x, PUSH, 9, PUT, 0);
        for (int i = 0; i < pads; i++) {
            x.due(true).code(JUMP, 3 + i);
        }
        int loop = 3 + pads;
        draft(x, ARG, 0, DUP, 0, ZERO, loop + 5, PUSH, 1, SUB, 0, JUMP, loop, tail[0], 5, tail[1], 0);
        if (tail.length == 3) {
            draft(x, tail[2], 0);
        }
        x.due(OK).deploy(0);
        return x;
    }

    private static void endsAs(int code, int last, int... tail) {
        Grid x = atLast(last, tail);
        x.due(code).submit(0, 0, 2, 14);
        seen(x, 0, code == OK ? 5 : 0, 2);
        entry(x, 0, 2, code == OK ? 9 : 3);
        entry(x, 1, 2, code == OK ? 9 : 3);
        Grid y = atLast(last, tail);
        submitWith(y, 4, 0, 0, 2, 14);
        y.due(code).retry(0);
        seen(y, 0, code == OK ? 5 : 0, 2);
    }

    private static void endings() {
        sentence("Terms: DONE by the 79th and the 80th instruction: OK", () -> {
            endsAs(OK, 79, PUSH, END);
            endsAs(OK, 80, PUSH, END);
        });
        sentence("Terms: FAIL as the 79th and the 80th instruction: FAILED", () -> {
            endsAs(FAILED, 79, PUSH, FAIL);
            endsAs(FAILED, 80, PUSH, FAIL);
        });
        sentence("Terms: DIV by 0 as the 79th and the 80th instruction: FAILED", () -> {
            endsAs(FAILED, 79, DUP, DIV, END);
            endsAs(FAILED, 80, DUP, DIV, END);
        });
        sentence("Terms: REM by 0 as the 79th and the 80th instruction: FAILED", () -> {
            endsAs(FAILED, 79, DUP, REM, END);
            endsAs(FAILED, 80, DUP, REM, END);
        });
        sentence("Terms: neither DONE nor FAILED by the 80th: FORCED", () -> {
            endsAs(FORCED, 81, PUSH, END);
            endsAs(FORCED, 81, PUSH, FAIL);
            endsAs(FORCED, 81, DUP, DIV, END);
            endsAs(FORCED, 81, DUP, REM, END);
        });
        sentence("Terms: FORCED in a loop without an end", () -> {
            Grid x = withMembers(0, 0);
            deploys(x, 0, JUMP, 0);
            deploys(x, 1, PUSH, 0, ZERO, 0, FAIL, 0);
            deploys(x, 2, PUSH, 1, PUT, 0, JUMP, 2);
            for (int t = 0; t < 3; t++) {
                x.due(FORCED).submit(0, t, 0, 0);
                seen(x, 0, 0, t + 1);
                noEntry(x, 0, 0);
            }
        });
        sentence("Terms: FORCED: the entry is as before, though the view is another or none", () -> {
            Grid x = withTasks(1, 0, 1);
            deploys(x, REMOVES, REMOVE, 0, JUMP, 1);
            deploys(x, FAILING, ARG, 0, PUT, 0, JUMP, 2);
            x.due(OK).submit(0, PUTS, 0, 3);
            for (int t : new int[] {REMOVES, FAILING}) {
                x.due(FORCED).submit(0, t, 0, 8);
                entry(x, 0, 0, 3);
                entry(x, 1, 0, 3);
            }
        });
        sentence("Terms: a run begins with an empty stack at instruction 0, whatever ran before", () -> {
            Grid x = withMembers(0, 0);
            deploys(x, 0, PUSH, 1, PUSH, 2, PUSH, 3, PUSH, 4, JUMP, 4);
            deploys(x, 1, PUSH, 5, PUSH, 6, PUSH, 7, PUSH, 8, SUB, 0, MUL, 0, ADD, 0, END, 0);
            deploys(x, 2, PUSH, 5, PUSH, 6, PUSH, 7, FAIL, 0);
            for (int t : new int[] {0, 2, 1}) {
                x.due(t == 0 ? FORCED : t == 1 ? OK : FAILED).submit(0, t, 0, 0);
                x.due(OK).submit(0, 1, 0, 0);
                x.due(-1).result(0);
            }
        });
        sentence("Terms: NO_TASK: result 0, and the entry is as before", () -> {
            for (int task : new int[] {Integer.MIN_VALUE, -1, 2, 4, Integer.MAX_VALUE}) {
                Grid x = withMembers(1, 0, 1);
                deploys(x, 0, PUSH, 6, DUP, 0, PUT, 0, END, 0);
                x.due(OK).submit(0, 0, 0, 0);
                x.due(NO_TASK).submit(0, task, 0, 0);
                seen(x, 0, 0, 2);
                entry(x, 0, 0, 6);
                x.due(NO_TASK).submit(0, task, 6, 0);
                noEntry(x, 0, 6);
            }
        });
        sentence("Terms: OK: the entry becomes as the view is: put, put again, removed, not touched", () -> {
            Grid x = withTasks(2, 0, 1, 2, 3, 4);
            deploys(x, FAILING, PUSH, 77, END, 0);
            long[][] steps = {{FAILING, 0, 0}, {PUTS, 1, 8}, {FAILING, 1, 8}, {PUTS, 1, 9}, {REMOVES, 0, 0}, {REMOVES, 0, 0},
                {PUTS, 1, 0}, {FAILING, 1, 0}, {REMOVES, 0, 0}, {ADDS, 1, 4}};
            for (long[] step : steps) {
                x.due(OK).submit(0, (int) step[0], 4, (int) step[2]);
                for (int m : new int[] {4, 0, 1}) {
                    x.due(step[1] == 1).present(m, 4);
                    x.due(step[2]).value(m, 4);
                }
                noEntry(x, 2, 4);
                noEntry(x, 4, 10);
            }
        });
        sentence("Terms: not OK: the entry is as before, there or not", () -> {
            Grid x = withTasks(1, 0, 1);
            deploys(x, REMOVES, REMOVE, 0, FAIL, 0);
            for (int task : new int[] {FAILING, REMOVES}) {
                x.due(FAILED).submit(0, task, 0, 8);
                noEntry(x, 0, 0);
                noEntry(x, 1, 0);
            }
            x.due(OK).submit(0, PUTS, 0, 3);
            for (int task : new int[] {FAILING, REMOVES}) {
                x.due(FAILED).submit(0, task, 0, 8);
                entry(x, 0, 0, 3);
                entry(x, 1, 0, 3);
            }
        });
    }

    // Terms: the faults that members go by

    private static void ownerGoesBefore() {
        sentence("Terms: fault 2: no other copy has changed: the entry", () -> {
            Grid x = withTasks(2, 0, 1, 2, 3, 4);
            x.due(OK).submit(0, PUTS, 0, 9);
            submitWith(x, 2, 0, ADDS, 0, 5);
            entry(x, 1, 0, 9);
            entry(x, 2, 0, 9);
            noEntry(x, 0, 0);
            submitWith(x, 2, 0, REMOVES, 0, 5);
            entry(x, 2, 0, 9);
            submitWith(x, 2, 1, PUTS, 1, 5);
            for (int m = 0; m < 5; m++) {
                noEntry(x, m, 1);
            }
        });
        sentence("Terms: fault 2: no other copy has changed: the record", () -> {
            Grid x = withTasks(2, 0, 1, 2, 3, 4);
            submitWith(x, 2, 0, ADDS, 0, 5);
            x.due(1).executed();
            retryWith(x, 2, 0);
            x.due(2).executed();
            x.due(OK).retry(0);
            seen(x, 0, 5, 3);
            entry(x, 2, 0, 5);
        });
        sentence("Terms: fault 2: no other copy has changed: an earlier record stands", () -> {
            // The copy that stays has the record of request 1; request 2 is executed again.
            Grid x = withTasks(1, 0, 1, 2, 3, 4);
            x.due(OK).submit(0, ADDS, 0, 5);
            submitWith(x, 2, 0, ADDS, 0, 6);
            x.due(OK).retry(0);
            seen(x, 0, 11, 3);
        });
        sentence("Terms: fault 2: the owner drops out, and it alone: of every key", () -> {
            for (int key = 0; key < 18; key++) {
                Grid x = withTasks(1, 0, 1, 2, 3, 4);
                int owner = key % 6 % 5;
                submitWith(x, 2, 0, PUTS, key, 5);
                for (int m = 0; m < 5; m++) {
                    x.due(m == owner).join(m);
                }
                x.due((owner + 1) % 5).owner(key % 6);
                x.due(1 << (owner + 1) % 5).copies(key % 6);
            }
        });
        sentence("Terms: fault 2: the owner drops out whether it executed or not", () -> {
            Grid x = withTasks(2, 0, 1, 2, 3, 4);
            submitWith(x, 4, 0, ADDS, 0, 5);
            retryWith(x, 2, 0);
            lists(x, 1, 6, 1, 14, 2, 28, 3, 24, 4, 18, 1, 6);
            seen(x, 0, 0, 1);
            retryWith(x, 2, 0);
            x.due(2).owner(0);
            x.due(4).copies(0);
            x.due(OK).retry(0);
            seen(x, 0, 5, 1);
            entry(x, 2, 0, 5);
        });
        sentence("Terms: fault 2: the owner drops out whatever the code would be", () -> {
            for (int task : new int[] {FAILING, 4}) {
                Grid x = withTasks(1, 0, 1, 2, 3, 4);
                submitWith(x, 2, 0, task, 2, 5);
                x.due(3).owner(2);
                x.due(8).copies(2);
                x.due(task == 4 ? NO_TASK : FAILED).retry(0);
                seen(x, 0, 0, 2);
            }
        });
        sentence("Terms: fault 2 at the only copy: the partition is lost", () -> {
            Grid x = withTasks(0, 0, 1, 2);
            x.due(OK).submit(1, PUTS, 6, 8);
            x.due(OK).submit(1, PUTS, 2, 7);
            submitWith(x, 2, 0, ADDS, 0, 5);
            // Member 0 had the partitions 0, 3, 4 and 5.
            x.due(4).lost();
            lists(x, 1, 2, 1, 2, 2, 4, 1, 2, 1, 2, 1, 2);
            noEntry(x, 1, 0);
            noEntry(x, 1, 6);
            entry(x, 2, 2, 7);
            x.due(OK).retry(0);
            seen(x, 0, 5, 4);
        });
        sentence("Terms: fault 2 at the only copy with the record: it is lost too", () -> {
            Grid x = withTasks(0, 0, 1, 2);
            submitWith(x, 4, 0, ADDS, 0, 5);
            retryWith(x, 2, 0);
            noEntry(x, 1, 0);
            x.due(OK).retry(0);
            seen(x, 0, 5, 2);
            entry(x, 1, 0, 5);
        });
        sentence("Terms: fault 2 at the only member: nobody is live then", () -> {
            for (int backups = 0; backups <= 2; backups++) {
                Grid x = withTasks(backups, 3);
                submitWith(x, 2, 0, ADDS, 0, 5);
                allLists(x, -1, 0);
                x.due(6).lost();
                x.due(NO_MEMBER).retry(0);
                x.due(true).join(3);
                noEntry(x, 3, 0);
                x.due(OK).retry(0);
                seen(x, 0, 5, 2);
            }
        });
    }

    private static void ownerGoesAfter() {
        sentence("Terms: fault 3: all copies have changed: the entry and the record", () -> {
            Grid x = withTasks(2, 0, 1, 2, 3, 4);
            x.due(OK).submit(1, PUTS, 0, 9);
            submitWith(x, 3, 0, ADDS, 0, 5);
            entry(x, 1, 0, 14);
            entry(x, 2, 0, 14);
            x.due(true).crash(1);
            x.due(OK).retry(0);
            seen(x, 0, 14, 2);
            entry(x, 2, 0, 14);
        });
        sentence("Terms: fault 3: a code that is not OK is in the records too", () -> {
            for (int task : new int[] {FAILING, 4}) {
                Grid x = withTasks(1, 0, 1, 2, 3, 4);
                submitWith(x, 3, 0, task, 1, 5);
                x.due(2).owner(1);
                noEntry(x, 2, 1);
                deploys(x, FAILING, PUSH, 1, END, 0);
                x.due(task == 4 ? NO_TASK : FAILED).retry(0);
                seen(x, 0, 0, 1);
            }
        });
        sentence("Terms: fault 3: then the owner drops out, and it alone: of every key", () -> {
            for (int key = 0; key < 18; key++) {
                Grid x = withTasks(1, 0, 1, 2, 3, 4);
                int owner = key % 6 % 5;
                submitWith(x, 3, 0, PUTS, key, 5);
                for (int m = 0; m < 5; m++) {
                    x.due(m == owner).join(m);
                }
                entry(x, (owner + 1) % 5, key, 5);
                x.due(1 << (owner + 1) % 5).copies(key % 6);
            }
        });
        sentence("Terms: fault 3: the owner drops out also where the record was used", () -> {
            Grid x = withTasks(2, 0, 1, 2, 3, 4);
            submitWith(x, 4, 0, ADDS, 0, 5);
            retryWith(x, 3, 0);
            lists(x, 1, 6, 1, 14, 2, 28, 3, 24, 4, 18, 1, 6);
            x.due(OK).retry(0);
            seen(x, 0, 5, 1);
            entry(x, 1, 0, 5);
        });
        sentence("Terms: fault 3 at the only copy: the partition is lost", () -> {
            Grid x = withTasks(0, 0, 1, 2);
            submitWith(x, 3, 0, ADDS, 0, 5);
            x.due(4).lost();
            lists(x, 1, 2, 1, 2, 2, 4, 1, 2, 1, 2, 1, 2);
            noEntry(x, 1, 0);
            x.due(OK).retry(0);
            seen(x, 0, 5, 2);
        });
        sentence("Terms: fault 3 at the only member: nobody is live then", () -> {
            Grid x = withTasks(2, 4);
            submitWith(x, 3, 0, ADDS, 0, 5);
            allLists(x, -1, 0);
            x.due(6).lost();
            x.due(NO_MEMBER).retry(0);
        });
        sentence("Terms: fault 3: no answer: the result stays", () -> {
            Grid x = withTasks(1, 0, 1);
            x.due(OK).submit(0, PUTS, 0, 9);
            submitWith(x, 3, 0, PUTS, 0, 5);
            seen(x, 0, 9, 2);
        });
    }

    private static void answerLost() {
        sentence("Terms: fault 4: all copies have changed, nobody drops out", () -> {
            Grid x = withTasks(2, 0, 1, 2, 3, 4);
            submitWith(x, 4, 0, PUTS, 0, 5);
            for (int m = 0; m < 3; m++) {
                entry(x, m, 0, 5);
            }
            lists(x, 0, 7, 1, 14, 2, 28, 3, 25, 4, 19, 0, 7);
            x.due(0).lost();
            seen(x, 0, 0, 1);
        });
        sentence("Terms: fault 4: the record is on all copies", () -> {
            for (int gone = 0; gone < 3; gone++) {
                Grid x = withTasks(2, 0, 1, 2, 3, 4);
                submitWith(x, 4, 0, ADDS, 0, 5);
                for (int m = 0; m < gone; m++) {
                    x.due(true).crash(m);
                }
                x.due(OK).retry(0);
                seen(x, 0, 5, 1);
                entry(x, 2, 0, 5);
            }
        });
        sentence("Terms: fault 4 again where the record was used: nothing more is done", () -> {
            Grid x = withTasks(1, 0, 1);
            submitWith(x, 4, 0, ADDS, 0, 5);
            retryWith(x, 4, 0);
            retryWith(x, 4, 0);
            seen(x, 0, 0, 1);
            entry(x, 0, 0, 5);
        });
        sentence("Terms: no fault: all copies have changed alike, the code is the answer", () -> {
            Grid x = withTasks(2, 0, 1, 2, 3, 4);
            x.due(OK).submit(0, PUTS, 9, 5);
            for (int m : new int[] {3, 4, 0}) {
                entry(x, m, 9, 5);
            }
            noEntry(x, 1, 9);
            noEntry(x, 2, 9);
            seen(x, 0, 5, 1);
        });
    }

    // Promise 17

    private static void executed() {
        sentence("17: every code counts", () -> {
            Grid x = withTasks(0, 0);
            deploys(x, REMOVES, JUMP, 0);
            int[] codes = {OK, OK, FORCED, FAILED, NO_TASK};
            for (int task = 0; task < 5; task++) {
                x.due(codes[task]).submit(0, task, 0, 1);
                x.due(task + 1).executed();
            }
        });
        sentence("17: records that were used instead are not counted", () -> {
            Grid x = withTasks(0, 0);
            submitWith(x, 4, 0, ADDS, 0, 1);
            retryWith(x, 4, 0);
            x.due(OK).retry(0);
            x.due(1).executed();
        });
        sentence("17: a request that did not arrive, was refused or found no member is not counted", () -> {
            Grid x = withTasks(0, 0);
            submitWith(x, 1, 0, ADDS, 0, 1);
            x.due(BAD).submit(0, ADDS, 18, 1);
            x.due(BAD).submit(3, ADDS, 0, 1);
            x.due(BAD).retry(1);
            x.due(true).crash(0);
            x.due(NO_MEMBER).retry(0);
            x.due(NO_MEMBER).submit(1, ADDS, 0, 1);
            x.due(0).executed();
        });
        sentence("17: a request that is executed again counts again", () -> {
            Grid x = withTasks(1, 0, 1);
            submitWith(x, 2, 0, ADDS, 0, 1);
            x.due(1).executed();
            x.due(OK).retry(0);
            x.due(2).executed();
        });
        sentence("What it is: 512 calls of one object, of executed", () -> {
            Grid x = new Grid(0);
            x.due(true).join(0);
            for (int i = 1; i <= 510; i++) {
                x.due(NO_TASK).submit(i % 3, 0, i % 18, 0);
            }
            x.due(510).executed();
        });
        sentence("17: the requests of all clients are counted, and a loss takes none back", () -> {
            Grid x = withTasks(0, 0);
            for (int client = 0; client < 3; client++) {
                x.due(OK).submit(client, ADDS, client, 1);
            }
            x.due(true).crash(0);
            x.due(3).executed();
        });
    }
}
