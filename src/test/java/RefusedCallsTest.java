import java.util.ArrayList;
import java.util.List;

// A refused call, or one that only looks, changes nothing: two objects get the same calls, one of them the refused call
// too, and all that can be seen later must be the same. Each pair of objects is looked at in one way, for a look by
// submit or crash changes what the next look would see.
public final class RefusedCallsTest extends Check {
    private interface Calls {
        void on(Grid x);
    }

    private record Way(String name, int backups, Calls calls) { }

    private static final int[] FAR = {Integer.MIN_VALUE, -256, -1, 256, Integer.MAX_VALUE};

    private static final List<Way> STATES = new ArrayList<>();
    private static final List<Way> LOOKS = new ArrayList<>();

    public static void main(String[] args) {
        begin();
        states();
        looks();
        code();
        deploy();
        members();
        requests();
        lookingCalls();
        end();
    }

    // The states. Members 0, 1 and 3 are live in "busy", 2 and 4 are not.

    private static void states() {
        for (int backups = 0; backups <= 2; backups++) {
            for (int kind = 0; kind <= 4; kind++) {
                int fault = kind;
                STATES.add(new Way("busy, fault " + kind, backups, x -> busy(x, fault)));
            }
        }
        STATES.add(new Way("new", 1, x -> { }));
        STATES.add(new Way("nobody live any more", 1, x -> {
            busy(x, 3);
            for (int m : new int[] {0, 1, 3}) {
                x.due(true).crash(m);
            }
        }));
        STATES.add(new Way("full draft", 1, x -> {
            busy(x, 1);
            for (int i = 3; i < 15; i++) {
                x.due(true).code(REMOVE, i);
            }
            x.due(true).code(END, 0);
        }));
    }

    /** Lists that differ from the wanted ones, tasks 0, 1 and 3, entries, a draft, and three clients with a latest request each. */
    private static void busy(Grid x, int kind) {
        for (int m : new int[] {0, 1, 4}) {
            x.due(true).join(m);
        }
        migrateAll(x);
        deploys(x, 0, OLD, 0, ARG, 0, ADD, 0, DUP, 0, PUT, 0, END, 0);
        deploys(x, 1, REMOVE, 0, HAS, 0, END, 0);
        deploys(x, 3, ARG, 0, PUT, 0, FAIL, 0);
        for (int key = 0; key < 12; key++) {
            x.due(OK).submit(0, 0, key, 10 + key);
        }
        // Client 0 has its answer, client 1 lacks it though it was executed, client 2 was not heard.
        x.due(true).fault(4);
        x.due(LOST).submit(1, 0, 7, 5);
        x.due(true).fault(1);
        x.due(LOST).submit(2, 0, 8, 6);
        x.due(true).join(3);
        for (int i = 0; i < 3; i++) {
            x.migrate();
        }
        x.due(true).crash(4);
        draft(x, PUSH, 70, ARG, 0, ADD, 0);
        x.due(true).fault(kind);
    }

    // The looks

    private static void looks() {
        LOOKS.add(new Way("all that can be read", 0, RefusedCallsTest::readAll));
        LOOKS.add(new Way("the draft as it is", 0, x -> {
            x.deploy(2);
            taskAnswers(x);
        }));
        LOOKS.add(new Way("the draft with END", 0, x -> {
            x.code(END, 0);
            x.deploy(2);
            taskAnswers(x);
        }));
        LOOKS.add(new Way("the room in the draft", 0, x -> {
            for (int i = 0; i < 17; i++) {
                x.code(REMOVE, 0);
            }
            x.deploy(0);
            taskAnswers(x);
        }));
        for (int each = 0; each < 3; each++) {
            int client = each;
            LOOKS.add(new Way("retries, client " + client + " first", 0, x -> retries(x, client)));
        }
        LOOKS.add(new Way("tasks", 0, RefusedCallsTest::taskAnswers));
        LOOKS.add(new Way("migrations", 0, x -> {
            for (int i = 0; i < 7; i++) {
                x.migrate();
                readLists(x);
            }
            readEntries(x);
        }));
        LOOKS.add(new Way("crashes", 0, x -> {
            for (int m = 0; m < 5; m++) {
                x.crash(m);
                readLists(x);
            }
            x.lost();
            x.join(2);
            retries(x, 1);
        }));
        LOOKS.add(new Way("leaves", 0, x -> {
            for (int m = 4; m >= 0; m--) {
                x.leave(m);
                readLists(x);
                x.present(0, 7);
                x.value(1, 7);
            }
            x.lost();
        }));
        LOOKS.add(new Way("joins", 0, x -> {
            for (int m = 0; m < 5; m++) {
                x.join(m);
                readLists(x);
            }
            readEntries(x);
        }));
    }

    private static void readLists(Grid x) {
        for (int p = 0; p < 6; p++) {
            x.owner(p);
            x.copies(p);
        }
    }

    private static void readEntries(Grid x) {
        for (int key = 0; key < 18; key++) {
            for (int m = 0; m < 5; m++) {
                x.present(m, key);
                x.value(m, key);
            }
        }
    }

    private static void readAll(Grid x) {
        readLists(x);
        readEntries(x);
        for (int client = 0; client < 3; client++) {
            x.result(client);
        }
        x.lost();
        x.executed();
    }

    private static void taskAnswers(Grid x) {
        for (int task = -1; task <= 4; task++) {
            x.submit(0, task, 5, 3);
            x.result(0);
            x.executed();
            x.value(x.owner(5), 5);
        }
    }

    private static void retries(Grid x, int first) {
        for (int round = 0; round < 2; round++) {
            for (int i = 0; i < 3; i++) {
                int client = (first + i) % 3;
                x.retry(client);
                x.result(client);
                x.executed();
                x.lost();
            }
            readLists(x);
        }
        for (int key = 6; key < 10; key++) {
            for (int m = 0; m < 5; m++) {
                x.value(m, key);
            }
        }
    }

    // The comparing

    private static void sameAfter(Way state, Calls one, Calls other) {
        sameAfter(state, one, state, other);
    }

    private static void sameAfter(Way stateOfOne, Calls one, Way stateOfOther, Calls other) {
        for (Way look : LOOKS) {
            List<String> seenOfOne = seenAfter(stateOfOne, one, look);
            List<String> seenOfOther = seenAfter(stateOfOther, other, look);
            if (!seenOfOne.equals(seenOfOther)) {
                int i = 0;
                while (seenOfOne.get(i).equals(seenOfOther.get(i))) {
                    i++;
                }
                report("in the state '" + stateOfOther.name + "', " + stateOfOther.backups + " backups, seen by '" + look.name
                    + "': " + seenOfOther.get(i) + ", due is: " + seenOfOne.get(i));
            }
        }
    }

    private static List<String> seenAfter(Way state, Calls calls, Way look) {
        Grid x = new Grid(state.backups);
        state.calls.on(x);
        calls.on(x);
        int before = x.answers().size();
        look.calls.on(x);
        return x.answers().subList(before, x.answers().size());
    }

    private static void changesNothing(Way state, Calls refused) {
        sameAfter(state, x -> { }, refused);
    }

    private static void changesNothingAnywhere(Calls refused) {
        for (Way state : STATES) {
            changesNothing(state, refused);
        }
    }

    private static Way state(String name) {
        return STATES.stream().filter(state -> state.name.equals(name)).findFirst().orElseThrow();
    }

    // The refused calls

    private static void code() {
        sentence("2: false, and nothing changes, if op is not 0..23", () -> {
            for (int op : new int[] {Integer.MIN_VALUE, -1, 24, 25, 256, Integer.MAX_VALUE}) {
                changesNothingAnywhere(x -> x.due(false).code(op, 5));
            }
        });
        sentence("2: false, and nothing changes, if the draft has 16 already", () -> {
            for (int each = 0; each <= 23; each++) {
                int op = each;
                changesNothing(state("full draft"), x -> x.due(false).code(op, 5));
            }
        });
    }

    private static void deploy() {
        sentence("3: BAD if t is not 0..3: the draft is empty then, and nothing else changes", () -> {
            for (int t : new int[] {Integer.MIN_VALUE, -1, 4, 256, Integer.MAX_VALUE}) {
                for (Way state : STATES) {
                    boolean isFull = state.name.equals("full draft");
                    Way lessFull = isFull ? new Way("busy", 1, x -> busy(x, 1)) : state;
                    sameAfter(lessFull, RefusedCallsTest::emptyByFault, state, x -> x.due(BAD).deploy(t));
                }
            }
        });
        sentence("3: BAD if the draft was empty: nothing changes", () -> {
            for (int t = -1; t <= 4; t++) {
                int task = t;
                for (Way state : STATES) {
                    sameAfter(state, x -> x.deploy(-1), x -> {
                        x.deploy(-1);
                        x.due(BAD).deploy(task);
                    });
                }
            }
        });
        sentence("3: a faulty instruction: the draft is empty then, and nothing else changes", () -> {
            for (int t = 0; t < 4; t++) {
                int task = t;
                for (Way state : STATES) {
                    if (!state.name.equals("new") && !state.name.equals("full draft")) {
                        sameAfter(state, x -> x.deploy(-1), x -> x.due(FAULTY + 2).deploy(task));
                    }
                }
            }
        });
    }

    /** Leaves the draft empty and the tasks as they are, if there is room in the draft. */
    private static void emptyByFault(Grid x) {
        x.due(true).code(JUMP, -1);
        if (x.deploy(2) < FAULTY) {
            report("a jump to none of the program was not refused");
        }
    }

    private static void members() {
        sentence("4: false, and nothing changes, if m is not 0..4", () -> {
            for (int m : new int[] {-32, -1, 5, 6, 31, 32, 256}) {
                changesNothingAnywhere(x -> x.due(false).join(m));
            }
        });
        sentence("4: false, and nothing changes, if m is live", () -> {
            for (Way state : STATES) {
                if (state.name.startsWith("busy")) {
                    for (int m : new int[] {0, 1, 3}) {
                        changesNothing(state, x -> x.due(false).join(m));
                    }
                }
            }
        });
        sentence("5: false, and nothing changes, if m is not 0..4 or not live", () -> {
            for (int m : new int[] {-32, -31, -1, 2, 4, 5, 32, 33, 256}) {
                changesNothingAnywhere(x -> x.due(false).crash(m));
            }
            for (int m = 0; m < 5; m++) {
                int none = m;
                changesNothing(state("new"), x -> x.due(false).crash(none));
                changesNothing(state("nobody live any more"), x -> x.due(false).crash(none));
            }
        });
        sentence("6: false, and nothing changes, if m is not 0..4 or not live", () -> {
            for (int m : new int[] {-32, -31, -1, 2, 4, 5, 32, 33, 256}) {
                changesNothingAnywhere(x -> x.due(false).leave(m));
            }
            for (int m = 0; m < 5; m++) {
                int none = m;
                changesNothing(state("new"), x -> x.due(false).leave(none));
                changesNothing(state("nobody live any more"), x -> x.due(false).leave(none));
            }
        });
        sentence("7: -1 if there is none: nothing changes", () -> {
            for (Way state : STATES) {
                sameAfter(state, RefusedCallsTest::migrateSeven, x -> {
                    migrateSeven(x);
                    x.due(-1).migrate();
                });
            }
        });
    }

    private static void migrateSeven(Grid x) {
        for (int i = 0; i < 7; i++) {
            x.migrate();
        }
    }

    private static void requests() {
        sentence("8: false, and nothing changes, if kind is not 0..4", () -> {
            for (int kind : new int[] {Integer.MIN_VALUE, -1, 5, 6, 256, Integer.MAX_VALUE}) {
                changesNothingAnywhere(x -> x.due(false).fault(kind));
            }
        });
        sentence("9: BAD, and nothing changes, if client is not 0..2", () -> {
            for (int client : new int[] {Integer.MIN_VALUE, -1, 3, 256, Integer.MAX_VALUE}) {
                changesNothingAnywhere(x -> x.due(BAD).submit(client, 0, 7, 9));
            }
        });
        sentence("9: BAD, and nothing changes, if key is not 0..17", () -> {
            for (int key : new int[] {Integer.MIN_VALUE, -1, 18, 256, Integer.MAX_VALUE}) {
                for (int client = 0; client < 3; client++) {
                    int any = client;
                    changesNothingAnywhere(x -> x.due(BAD).submit(any, 1, key, 9));
                }
            }
        });
        sentence("10: BAD, and nothing changes, if client is not 0..2", () -> {
            for (int client : new int[] {Integer.MIN_VALUE, -1, 3, 256, Integer.MAX_VALUE}) {
                changesNothingAnywhere(x -> x.due(BAD).retry(client));
            }
        });
        sentence("10: BAD, and nothing changes, if it has no request", () -> {
            for (int client = 0; client < 3; client++) {
                int any = client;
                changesNothing(state("new"), x -> x.due(BAD).retry(any));
                for (int kind = 0; kind <= 4; kind++) {
                    int fault = kind;
                    changesNothing(new Way("no request", 1, x -> onlyClient((any + 1) % 3, fault, x)), x -> x.due(BAD).retry(any));
                }
            }
        });
        sentence("10: BAD, and nothing changes, if its latest was answered", () -> {
            for (Way state : STATES) {
                if (!state.name.equals("new")) {
                    changesNothing(state, x -> x.due(BAD).retry(0));
                }
            }
        });
    }

    /** Two members with all partitions, and one client alone that has a request. */
    private static void onlyClient(int client, int kind, Grid x) {
        for (int m : new int[] {0, 1, 3}) {
            x.due(true).join(m);
        }
        migrateAll(x);
        deploys(x, 0, OLD, 0, ARG, 0, ADD, 0, DUP, 0, PUT, 0, END, 0);
        x.due(true).fault(4);
        x.due(LOST).submit(client, 0, 7, 5);
        x.due(true).fault(kind);
    }

    private static void lookingCalls() {
        sentence("11 to 17: a call that only looks changes nothing", () -> {
            changesNothingAnywhere(x -> {
                for (int p = -1; p <= 6; p++) {
                    x.owner(p);
                    x.copies(p);
                    x.result(p);
                }
                for (int far : FAR) {
                    x.owner(far);
                    x.copies(far);
                    x.result(far);
                    x.present(far, 0);
                    x.value(0, far);
                }
                for (int key = -1; key <= 18; key++) {
                    x.present(key % 5, key);
                    x.value(key % 5, key);
                }
                x.lost();
                x.executed();
            });
        });
    }
}
