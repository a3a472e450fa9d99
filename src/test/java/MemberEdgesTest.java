// The boundary cases of members and lists: promises 1, 4 to 7 and 12 to 16, a test for each sentence.
public final class MemberEdgesTest extends Check {
    private static final int[] NO_MEMBERS = {Integer.MIN_VALUE, -32, -27, -5, -1, 5, 6, 8, 31, 32, 36, 256, Integer.MAX_VALUE};
    private static final int[] NO_PARTITIONS = {Integer.MIN_VALUE, -6, -1, 6, 7, 12, 32, 256, Integer.MAX_VALUE};
    private static final int[] NO_KEYS = {Integer.MIN_VALUE, -18, -6, -1, 18, 19, 24, 256, Integer.MAX_VALUE};

    public static void main(String[] args) {
        begin();
        newObject();
        wantedLists();
        join();
        crash();
        dropsOut();
        leave();
        migrate();
        looks();
        lostCount();
        end();
    }

    private static boolean isLive(int liveSet, int m) {
        return (liveSet >> m) % 2 == 1;
    }

    /** The member at a place of the list that is wanted of partition p; -1 behind its end. */
    private static int wanted(int p, int liveSet, int backups, int place) {
        int before = 0;
        for (int i = 0; i < 5; i++) {
            int m = (p + i) % 5;
            if (isLive(liveSet, m)) {
                if (before == place) {
                    return place <= backups ? m : -1;
                }
                before++;
            }
        }
        return -1;
    }

    private static int bit(int m) {
        return m < 0 ? 0 : 1 << m;
    }

    private static int wantedSet(int p, int liveSet, int backups) {
        return bit(wanted(p, liveSet, backups, 0)) + bit(wanted(p, liveSet, backups, 1)) + bit(wanted(p, liveSet, backups, 2));
    }

    private static int[] membersOf(int liveSet) {
        return java.util.stream.IntStream.range(0, 5).filter(m -> isLive(liveSet, m)).toArray();
    }

    /** The value that each of the 18 keys gets. */
    private static long valueOf(int key) {
        return 100 + key;
    }

    private static void putAll(Grid x) {
        for (int key = 0; key < 18; key++) {
            x.due(OK).submit(0, PUTS, key, (int) valueOf(key));
        }
    }

    private static void entriesOf(Grid x, int p, int m, boolean there) {
        for (int key = p; key < 18; key += 6) {
            if (there) {
                entry(x, m, key, valueOf(key));
            } else {
                noEntry(x, m, key);
            }
        }
    }

    // Promise 1

    private static void newObject() {
        sentence("1: no member is live", () -> {
            Grid x = new Grid(1);
            for (int m = 0; m < 5; m++) {
                x.due(false).crash(m);
                x.due(false).leave(m);
            }
            x.due(NO_MEMBER).submit(0, 0, 0, 0);
        });
        sentence("1: no tasks", () -> {
            Grid x = withMembers(0, 0);
            for (int t = -1; t <= 4; t++) {
                x.due(NO_TASK).submit(0, t, 0, 0);
            }
        });
        sentence("1: no requests", () -> {
            Grid x = new Grid(0);
            Grid y = withMembers(0, 0);
            for (int client = 0; client < 3; client++) {
                x.due(BAD).retry(client);
                y.due(BAD).retry(client);
                y.due(0).result(client);
            }
            y.due(0).executed();
        });
        sentence("1: an empty draft", () -> {
            Grid x = new Grid(0);
            for (int t = 0; t < 4; t++) {
                x.due(BAD).deploy(t);
            }
            for (int i = 0; i < 16; i++) {
                x.due(true).code(FAIL, 0);
            }
            x.due(false).code(FAIL, 0);
        });
        sentence("1: fault 0", () -> withMembers(0, 0).due(NO_TASK).submit(0, 0, 0, 0));
        sentence("1: all lists empty", () -> {
            Grid x = new Grid(2);
            allLists(x, -1, 0);
            x.due(-1).migrate();
        });
        sentence("1: nothing was lost or executed, and no entry is there", () -> {
            Grid x = new Grid(2);
            x.due(0).lost();
            x.due(0).executed();
            for (int key = 0; key < 18; key++) {
                noEntry(x, key % 5, key);
            }
            x.due(true).join(2);
            for (int key = 0; key < 18; key++) {
                noEntry(x, 2, key);
            }
            x.due(0).lost();
        });
        sentence("1: backups clamped to 0", () -> {
            for (int backups : new int[] {Integer.MIN_VALUE, -256, -2, -1, 0}) {
                lists(withMembers(backups, 0, 1, 2, 3, 4), 0, 1, 1, 2, 2, 4, 3, 8, 4, 16, 0, 1);
            }
        });
        sentence("1: backups 1 is 1", () -> lists(withMembers(1, 0, 1, 2, 3, 4), 0, 3, 1, 6, 2, 12, 3, 24, 4, 17, 0, 3));
        sentence("1: backups clamped to 2", () -> {
            for (int backups : new int[] {2, 3, 4, 5, 256, Integer.MAX_VALUE}) {
                lists(withMembers(backups, 0, 1, 2, 3, 4), 0, 7, 1, 14, 2, 28, 3, 25, 4, 19, 0, 7);
            }
        });
        sentence("1: an object has its own members, tasks and requests", () -> {
            Grid x = withTasks(1, 0, 1, 2);
            x.due(OK).submit(0, PUTS, 0, 5);
            x.due(true).fault(1);
            draft(x, FAIL, 0);
            Grid y = new Grid(2);
            allLists(y, -1, 0);
            y.due(BAD).deploy(0);
            y.due(true).join(0);
            noEntry(y, 0, 0);
            y.due(BAD).retry(0);
            y.due(NO_TASK).submit(0, PUTS, 0, 5);
            x.due(LOST).submit(0, PUTS, 0, 6);
            x.due(3).copies(0);
            x.due(OK).deploy(0);
        });
    }

    // Terms: the wanted list, and where keys are

    private static void wantedLists() {
        sentence("Terms: the wanted list, for all live members and backups", () -> {
            for (int backups = 0; backups <= 2; backups++) {
                for (int liveSet = 1; liveSet < 32; liveSet++) {
                    Grid x = withMembers(backups, membersOf(liveSet));
                    for (int p = 0; p < 6; p++) {
                        x.due(wanted(p, liveSet, backups, 0)).owner(p);
                        x.due(wantedSet(p, liveSet, backups)).copies(p);
                    }
                }
            }
        });
        sentence("Terms: the order in the wanted list, seen as one owner after the other goes", () -> {
            for (int p = 0; p < 6; p++) {
                for (int liveSet = 1; liveSet < 32; liveSet++) {
                    Grid x = withMembers(2, membersOf(liveSet));
                    int rest = wantedSet(p, liveSet, 2);
                    for (int place = 0; place < 3 && rest != 0; place++) {
                        int owner = wanted(p, liveSet, 2, place);
                        x.due(owner).owner(p);
                        x.due(rest).copies(p);
                        x.due(true).crash(owner);
                        rest -= bit(owner);
                    }
                }
            }
        });
        sentence("Terms: partition 5 begins with member 0, and the members go round", () -> {
            lists(withMembers(1, 0, 4), 0, 17, 4, 17, 4, 17, 4, 17, 4, 17, 0, 17);
            lists(withMembers(1, 1, 3), 1, 10, 1, 10, 3, 10, 3, 10, 1, 10, 1, 10);
        });
        sentence("Terms: fewer live members than 1 + backups: all of them", () -> {
            lists(withMembers(2, 2), 2, 4, 2, 4, 2, 4, 2, 4, 2, 4, 2, 4);
            lists(withMembers(2, 2, 4), 2, 20, 2, 20, 2, 20, 4, 20, 4, 20, 2, 20);
        });
        sentence("Terms: key k is in partition k mod 6", () -> {
            for (int key = 0; key < 18; key++) {
                Grid x = withTasks(0, 0, 1, 2, 3, 4);
                x.due(OK).submit(0, PUTS, key, 7);
                for (int m = 0; m < 5; m++) {
                    x.due(m == key % 6 % 5).present(m, key);
                }
            }
        });
        sentence("Terms: the keys of a partition are three entries", () -> {
            Grid x = withTasks(0, 3);
            putAll(x);
            for (int p = 0; p < 6; p++) {
                entriesOf(x, p, 3, true);
            }
            x.due(OK).submit(0, REMOVES, 0, 0);
            x.due(OK).submit(0, REMOVES, 17, 0);
            for (int key = 0; key < 18; key++) {
                x.due(key != 0 && key != 17).present(3, key);
            }
        });
    }

    // Promise 4

    private static void join() {
        sentence("4: false if m is not 0..4", () -> {
            Grid x = new Grid(1);
            for (int m : NO_MEMBERS) {
                x.due(false).join(m);
            }
        });
        sentence("4: nothing changes if m is not 0..4: nobody is live then", () -> {
            for (int m : NO_MEMBERS) {
                Grid x = new Grid(1);
                x.due(false).join(m);
                allLists(x, -1, 0);
                x.due(NO_MEMBER).submit(0, 0, 0, 0);
                x.due(-1).migrate();
                x.due(false).crash(m);
                x.due(false).leave(m);
                for (int other = 0; other < 5; other++) {
                    x.due(true).join(other);
                }
                allLists(x, 0, 1);
            }
        });
        sentence("4: nothing changes if m is not 0..4: others are live", () -> {
            for (int m : NO_MEMBERS) {
                Grid x = withMembers(2, 1, 3);
                x.due(false).join(m);
                lists(x, 1, 10, 1, 10, 3, 10, 3, 10, 1, 10, 1, 10);
                x.due(-1).migrate();
            }
        });
        sentence("4: false, and nothing changes, if m is live", () -> {
            for (int m = 0; m < 5; m++) {
                Grid x = withTasks(2, m);
                putAll(x);
                x.due(false).join(m);
                allLists(x, m, 1 << m);
                entriesOf(x, 4, m, true);
                x.due(-1).migrate();
                x.due(0).lost();
            }
        });
        sentence("4: nothing changes if m is live and in no list", () -> {
            for (int m = 1; m < 5; m++) {
                Grid x = new Grid(2);
                x.due(true).join(0);
                x.due(true).join(m);
                x.due(false).join(m);
                x.due(false).join(0);
                allLists(x, 0, 1);
            }
        });
        sentence("4: every empty list becomes m alone: members 0 to 4, all backups", () -> {
            for (int m = 0; m < 5; m++) {
                for (int backups = 0; backups <= 2; backups++) {
                    Grid x = new Grid(backups);
                    x.due(true).join(m);
                    allLists(x, m, 1 << m);
                }
            }
        });
        sentence("4: a list that is not empty stays", () -> {
            Grid x = new Grid(2);
            x.due(true).join(4);
            for (int m = 0; m < 4; m++) {
                x.due(true).join(m);
                allLists(x, 4, 16);
            }
        });
        sentence("4: m becomes live: it can go, and is wanted", () -> {
            for (int m = 0; m < 5; m++) {
                Grid x = new Grid(0);
                x.due(true).join((m + 1) % 5);
                x.due(true).join(m);
                migrateAll(x);
                x.due(m).owner(m);
                x.due(true).crash(m);
            }
        });
        sentence("4: a member that comes again holds nothing of before", () -> {
            Grid x = withTasks(1, 0, 1);
            putAll(x);
            x.due(true).crash(0);
            x.due(true).join(0);
            for (int p = 0; p < 6; p++) {
                x.due(2).copies(p);
                entriesOf(x, p, 0, false);
                entriesOf(x, p, 1, true);
            }
        });
        sentence("4: the empty lists after the last one went become m alone, without entries and records", () -> {
            Grid x = withTasks(2, 0, 1);
            putAll(x);
            x.due(true).fault(4);
            x.due(LOST).submit(1, ADDS, 0, 1);
            x.due(true).crash(0);
            x.due(true).crash(1);
            allLists(x, -1, 0);
            x.due(true).join(1);
            allLists(x, 1, 2);
            for (int p = 0; p < 6; p++) {
                entriesOf(x, p, 1, false);
            }
            x.due(OK).retry(1);
            seen(x, 1, 1, 20);
        });
    }

    // Promise 5 and what a drop-out is

    private static void crash() {
        sentence("5: false, and nothing changes, if m is not 0..4", () -> {
            for (int m : NO_MEMBERS) {
                Grid x = withTasks(1, 0, 1, 2, 3, 4);
                putAll(x);
                x.due(false).crash(m);
                lists(x, 0, 3, 1, 6, 2, 12, 3, 24, 4, 17, 0, 3);
                x.due(0).lost();
                x.due(-1).migrate();
                for (int p = 0; p < 6; p++) {
                    entriesOf(x, p, p % 5, true);
                }
                for (int other = 0; other < 5; other++) {
                    x.due(false).join(other);
                }
            }
        });
        sentence("5: false, and nothing changes, if m is not live", () -> {
            for (int m = 0; m < 5; m++) {
                new Grid(1).due(false).crash(m);
                Grid x = withTasks(1, (m + 1) % 5, (m + 2) % 5);
                putAll(x);
                x.due(false).crash(m);
                x.due(0).lost();
                x.due(-1).migrate();
                entriesOf(x, 3, (m + 1) % 5, true);
                entriesOf(x, 3, (m + 2) % 5, true);
                x.due(true).join(m);
            }
        });
        sentence("5: with nobody live nothing is lost by a refused crash", () -> {
            Grid x = withMembers(0, 0);
            x.due(true).crash(0);
            x.due(6).lost();
            x.due(false).crash(0);
            x.due(false).crash(4);
            x.due(6).lost();
        });
        sentence("5: true for a live m, of 0 to 4", () -> {
            for (int m = 0; m < 5; m++) {
                Grid x = withMembers(1, 0, 1, 2, 3, 4);
                x.due(true).crash(m);
                x.due(false).crash(m);
            }
        });
        sentence("5: what is alone at m is not handed over but lost", () -> {
            Grid x = withTasks(0, 0);
            putAll(x);
            x.due(true).join(1);
            x.due(true).crash(0);
            x.due(6).lost();
            allLists(x, 1, 2);
            for (int p = 0; p < 6; p++) {
                entriesOf(x, p, 1, false);
            }
        });
    }

    private static void dropsOut() {
        sentence("Terms: drops out: live no longer", () -> {
            Grid x = withMembers(1, 0, 1, 2);
            x.due(true).crash(1);
            x.due(false).crash(1);
            x.due(false).leave(1);
            migrateAll(x);
            lists(x, 0, 5, 2, 5, 2, 5, 0, 5, 0, 5, 0, 5);
            x.due(true).join(1);
        });
        sentence("Terms: drops out: taken out of all lists, as first, second and third, the others stay in order", () -> {
            Grid x = withMembers(2, 0, 1, 2, 3, 4);
            x.due(true).crash(2);
            lists(x, 0, 3, 1, 10, 3, 24, 3, 25, 4, 19, 0, 3);
            x.due(true).crash(0);
            lists(x, 1, 2, 1, 10, 3, 24, 3, 24, 4, 18, 1, 2);
            x.due(0).lost();
        });
        sentence("Terms: lost: only a partition whose list is then empty", () -> {
            Grid x = withTasks(1, 0, 1, 2, 3, 4);
            putAll(x);
            x.due(true).crash(3);
            x.due(0).lost();
            for (int p = 0; p < 6; p++) {
                entriesOf(x, p, p == 3 ? 4 : p % 5, true);
            }
            x.due(true).crash(4);
            x.due(1).lost();
            lists(x, 0, 3, 1, 6, 2, 4, 0, 1, 0, 1, 0, 3);
            for (int p = 0; p < 6; p++) {
                entriesOf(x, p, new int[] {0, 1, 2, 0, 0, 0}[p], p != 3);
            }
        });
        sentence("Terms: lost: the records of all clients are gone", () -> {
            for (int client = 0; client < 3; client++) {
                Grid x = withTasks(0, 0, 1);
                x.due(true).fault(4);
                x.due(LOST).submit(client, ADDS, 6, 5);
                x.due(true).crash(0);
                x.due(OK).retry(client);
                seen(x, client, 5, 2);
            }
        });
        sentence("Terms: lost: the records of other partitions stay", () -> {
            for (int key = 0; key < 18; key++) {
                Grid x = withTasks(0, 0, 1, 2, 3, 4);
                x.due(true).fault(4);
                x.due(LOST).submit(1, ADDS, key, 5);
                for (int m = 0; m < 5; m++) {
                    x.due(true).crash(m == key % 6 % 5 ? (m + 1) % 5 : m);
                    x.due(true).join(m == key % 6 % 5 ? (m + 1) % 5 : m);
                }
                x.due(OK).retry(1);
                seen(x, 1, 5, 1);
                entry(x, key % 6 % 5, key, 5);
            }
        });
        sentence("Terms: lost: the list becomes the first alone of the wanted list of those who stay", () -> {
            for (int liveSet = 1; liveSet < 32; liveSet++) {
                for (int gone : membersOf(liveSet)) {
                    Grid x = new Grid(2);
                    x.due(true).join(gone);
                    for (int m : membersOf(liveSet - bit(gone))) {
                        x.due(true).join(m);
                    }
                    x.due(true).crash(gone);
                    for (int p = 0; p < 6; p++) {
                        int first = wanted(p, liveSet - bit(gone), 2, 0);
                        x.due(first).owner(p);
                        x.due(bit(first)).copies(p);
                    }
                    x.due(6).lost();
                }
            }
        });
        sentence("Terms: lost with no member live: the lists stay empty", () -> {
            for (int backups = 0; backups <= 2; backups++) {
                Grid x = withMembers(backups, 4);
                x.due(true).crash(4);
                allLists(x, -1, 0);
                x.due(6).lost();
                x.due(-1).migrate();
                x.due(NO_MEMBER).submit(0, 0, 0, 0);
            }
        });
        sentence("Terms: while a member is live, no list is empty", () -> {
            for (int m = 0; m < 5; m++) {
                Grid x = withMembers(0, 0, 1, 2, 3, 4);
                for (int i = 1; i < 5; i++) {
                    x.due(true).crash((m + i) % 5);
                    for (int p = 0; p < 6; p++) {
                        if (x.owner(p) < 0) {
                            report("partition " + p + " has no owner");
                        }
                    }
                }
                allLists(x, m, 1 << m);
            }
        });
        sentence("Terms: what is lost comes back neither by join nor by migrate", () -> {
            Grid x = withTasks(0, 0, 1);
            putAll(x);
            x.due(true).crash(0);
            x.due(true).join(0);
            migrateAll(x);
            for (int p = 0; p < 6; p++) {
                entriesOf(x, p, p == 1 ? 1 : 0, p == 1);
            }
        });
        sentence("Terms: a value put after the loss stands alone", () -> {
            Grid x = withTasks(0, 0, 1);
            putAll(x);
            x.due(true).crash(0);
            x.due(OK).submit(0, ADDS, 6, 3);
            x.due(3).result(0);
            entry(x, 1, 6, 3);
            noEntry(x, 1, 0);
            noEntry(x, 1, 12);
        });
    }

    // Promise 6

    private static void leave() {
        sentence("6: false, and nothing changes, if m is not 0..4", () -> {
            for (int m : NO_MEMBERS) {
                Grid x = withTasks(0, 0, 1, 2, 3, 4);
                putAll(x);
                x.due(false).leave(m);
                lists(x, 0, 1, 1, 2, 2, 4, 3, 8, 4, 16, 0, 1);
                x.due(0).lost();
                x.due(-1).migrate();
                for (int p = 0; p < 6; p++) {
                    entriesOf(x, p, p % 5, true);
                }
                for (int other = 0; other < 5; other++) {
                    x.due(false).join(other);
                }
            }
        });
        sentence("6: false, and nothing changes, if m is not live", () -> {
            for (int m = 0; m < 5; m++) {
                new Grid(1).due(false).leave(m);
                Grid x = new Grid(0);
                x.due(true).join((m + 1) % 5);
                x.due(true).join((m + 2) % 5);
                x.due(false).leave(m);
                allLists(x, (m + 1) % 5, bit((m + 1) % 5));
                x.due(0).lost();
                x.due(true).join(m);
                allLists(x, (m + 1) % 5, bit((m + 1) % 5));
            }
        });
        sentence("6: handed over to the first that would be wanted if m were not live, with entries, as its only copy", () -> {
            for (int liveSet = 1; liveSet < 32; liveSet++) {
                for (int gone : membersOf(liveSet)) {
                    leaveAlone(gone, liveSet - bit(gone));
                }
            }
        });
        sentence("6: the records are handed over", () -> {
            for (int client = 0; client < 3; client++) {
                Grid x = withTasks(1, 3);
                x.due(true).fault(4);
                x.due(LOST).submit(client, ADDS, 16, 5);
                x.due(true).join(0);
                x.due(true).join(1);
                x.due(true).leave(3);
                x.due(0).owner(4);
                x.due(OK).retry(client);
                seen(x, client, 5, 1);
                entry(x, 0, 16, 5);
            }
        });
        sentence("6: a partition that others hold too is handed to nobody", () -> {
            Grid x = withTasks(1, 0, 1, 2, 3, 4);
            putAll(x);
            x.due(true).leave(1);
            lists(x, 0, 1, 2, 4, 2, 12, 3, 24, 4, 17, 0, 1);
            x.due(0).lost();
            for (int p = 0; p < 6; p++) {
                entriesOf(x, p, p == 1 ? 2 : p % 5, true);
                entriesOf(x, p, 1, false);
            }
        });
        sentence("6: a partition that others hold too is handed to nobody, though another member is wanted there", () -> {
            Grid x = withTasks(1, 0, 2);
            putAll(x);
            for (int m : new int[] {1, 3, 4}) {
                x.due(true).join(m);
            }
            x.due(true).leave(0);
            allLists(x, 2, 4);
            Grid y = withTasks(1, 0, 2);
            putAll(y);
            for (int m : new int[] {1, 3, 4}) {
                y.due(true).join(m);
            }
            y.due(true).leave(2);
            allLists(y, 0, 1);
            for (int p = 0; p < 6; p++) {
                entriesOf(x, p, 2, true);
                entriesOf(y, p, 0, true);
            }
        });
        sentence("6: a member that is in no list leaves: the lists stay, though others are wanted there", () -> {
            for (int first = 0; first < 5; first++) {
                Grid x = withTasks(1, first);
                putAll(x);
                for (int i = 1; i < 5; i++) {
                    x.due(true).join((first + i) % 5);
                }
                x.due(true).leave((first + 2) % 5);
                allLists(x, first, 1 << first);
                for (int p = 0; p < 6; p++) {
                    entriesOf(x, p, first, true);
                }
                x.due(0).lost();
            }
        });
        sentence("6: a partition that m has no part in stays, though one other holds it alone", () -> {
            Grid x = withTasks(0, 0, 1, 2, 3, 4);
            putAll(x);
            x.due(true).leave(2);
            lists(x, 0, 1, 1, 2, 3, 8, 3, 8, 4, 16, 0, 1);
            for (int p = 0; p < 6; p++) {
                entriesOf(x, p, p == 2 ? 3 : p % 5, true);
            }
        });
        sentence("6: the last member leaves: nobody to hand over to, all is lost", () -> {
            for (int m = 0; m < 5; m++) {
                Grid x = withTasks(1, m);
                putAll(x);
                x.due(true).leave(m);
                x.due(6).lost();
                allLists(x, -1, 0);
                x.due(NO_MEMBER).submit(0, 0, 0, 0);
                x.due(true).join(m);
                for (int p = 0; p < 6; p++) {
                    entriesOf(x, p, m, false);
                }
            }
        });
        sentence("6: then m drops out", () -> {
            Grid x = withMembers(1, 0, 1, 2);
            x.due(true).leave(0);
            x.due(false).leave(0);
            x.due(false).crash(0);
            lists(x, 1, 2, 1, 6, 2, 4, 1, 2, 1, 2, 1, 2);
            x.due(true).join(0);
            lists(x, 1, 2, 1, 6, 2, 4, 1, 2, 1, 2, 1, 2);
        });
    }

    /** All lists are one member alone; it leaves, and others are live. */
    private static void leaveAlone(int gone, int others) {
        Grid x = withTasks(2, gone);
        putAll(x);
        for (int m : membersOf(others)) {
            x.due(true).join(m);
        }
        x.due(true).leave(gone);
        for (int p = 0; p < 6; p++) {
            int first = wanted(p, others, 2, 0);
            x.due(first).owner(p);
            x.due(bit(first)).copies(p);
            entriesOf(x, p, gone, false);
            if (first >= 0) {
                entriesOf(x, p, first, true);
            }
        }
        x.due(others == 0 ? 6 : 0).lost();
    }

    // Promise 7

    private static void migrate() {
        sentence("7: -1 if there is none: nobody is live", () -> {
            Grid x = new Grid(1);
            x.due(-1).migrate();
            x.due(true).join(0);
            x.due(true).crash(0);
            x.due(-1).migrate();
            allLists(x, -1, 0);
        });
        sentence("7: -1 if there is none, and nothing changes", () -> {
            Grid x = withTasks(1, 0, 1, 2, 3, 4);
            putAll(x);
            for (int i = 0; i < 3; i++) {
                x.due(-1).migrate();
                lists(x, 0, 3, 1, 6, 2, 12, 3, 24, 4, 17, 0, 3);
            }
            for (int p = 0; p < 6; p++) {
                entriesOf(x, p, p % 5, true);
                entriesOf(x, p, (p + 1) % 5, true);
            }
        });
        sentence("7: -1 with a single member", () -> withMembers(2, 3).due(-1).migrate());
        sentence("7: the least partition, and this one alone", () -> {
            Grid x = new Grid(0);
            for (int m = 0; m < 5; m++) {
                x.due(true).join(m);
            }
            // Partitions 0 and 5 are member 0's by right.
            int[] now = {0, 1, 0, 1, 0, 1, 0, 1, 0, 1, 0, 1};
            for (int p = 1; p <= 4; p++) {
                x.due(p).migrate();
                now[2 * p] = p;
                now[2 * p + 1] = 1 << p;
                lists(x, now);
            }
            x.due(-1).migrate();
        });
        sentence("7: partition 0 and partition 5 can be the one", () -> {
            Grid x = withMembers(0, 4);
            x.due(true).join(0);
            x.due(0).migrate();
            x.due(5).migrate();
            x.due(-1).migrate();
            lists(x, 0, 1, 4, 16, 4, 16, 4, 16, 4, 16, 0, 1);
        });
        sentence("7: differs by a copy too few, by one too many and by other members", () -> {
            Grid few = withMembers(1, 0, 1, 2);
            few.due(true).crash(1);
            few.due(0).migrate();
            few.due(0).owner(0);
            few.due(5).copies(0);
            Grid other = withMembers(2, 0, 2, 3);
            other.due(true).join(1);
            other.due(0).migrate();
            other.due(0).owner(0);
            other.due(7).copies(0);
            Grid many = withMembers(1, 0, 2);
            many.due(true).join(1);
            many.due(0).migrate();
            many.due(3).copies(0);
        });
        sentence("7: the list differs though its owner is the wanted one", () -> {
            Grid x = withMembers(1, 0, 4);
            x.due(true).join(3);
            x.due(0).migrate();
            x.due(0).owner(0);
            x.due(9).copies(0);
        });
        sentence("7: with its entries on all of them, and on no others", () -> {
            Grid x = withTasks(2, 3);
            putAll(x);
            for (int m : new int[] {0, 1, 2, 4}) {
                x.due(true).join(m);
            }
            for (int p = 0; p < 6; p++) {
                x.due(p).migrate();
                for (int m = 0; m < 5; m++) {
                    entriesOf(x, p, m, (m + 5 - p % 5) % 5 <= 2);
                }
            }
        });
        sentence("7: with its records on all of them", () -> {
            for (int client = 0; client < 3; client++) {
                for (int gone = 0; gone < 3; gone++) {
                    Grid x = withTasks(2, 4);
                    x.due(true).fault(4);
                    x.due(LOST).submit(client, ADDS, 12, 5);
                    for (int m = 0; m < 4; m++) {
                        x.due(true).join(m);
                    }
                    x.due(0).migrate();
                    x.due(true).crash(4);
                    for (int m = 0; m < gone; m++) {
                        x.due(true).crash(m);
                    }
                    x.due(gone).owner(0);
                    x.due(OK).retry(client);
                    seen(x, client, 5, 1);
                    entry(x, 2, 12, 5);
                }
            }
        });
        sentence("7: nothing is lost by it", () -> {
            Grid x = new Grid(0);
            x.due(true).join(2);
            x.due(true).join(3);
            migrateAll(x);
            x.due(0).lost();
        });
    }

    // Promises 12 to 15

    private static void looks() {
        sentence("12 and 13: m is not 0..4", () -> {
            Grid x = withTasks(2, 0, 1, 2, 3, 4);
            putAll(x);
            for (int m : NO_MEMBERS) {
                noEntry(x, m, 0);
                noEntry(x, m, 9);
            }
        });
        sentence("12 and 13: the key is not 0..17", () -> {
            Grid x = withTasks(2, 0, 1, 2);
            putAll(x);
            for (int key : NO_KEYS) {
                for (int m = 0; m < 3; m++) {
                    noEntry(x, m, key);
                }
            }
        });
        sentence("12 and 13: neither is one", () -> {
            Grid x = withTasks(0, 0);
            putAll(x);
            for (int key : NO_KEYS) {
                for (int m : NO_MEMBERS) {
                    noEntry(x, m, key);
                }
            }
        });
        sentence("12 and 13: m holds a copy, but the key has no entry", () -> {
            Grid x = withTasks(0, 2);
            x.due(OK).submit(0, PUTS, 6, 9);
            noEntry(x, 2, 0);
            noEntry(x, 2, 12);
            entry(x, 2, 6, 9);
        });
        sentence("12 and 13: the key has an entry, but m holds no copy: live, and not live", () -> {
            Grid x = withTasks(1, 0, 1, 2);
            x.due(OK).submit(0, PUTS, 0, 9);
            entry(x, 0, 0, 9);
            entry(x, 1, 0, 9);
            noEntry(x, 2, 0);
            noEntry(x, 3, 0);
            noEntry(x, 4, 0);
            x.due(true).crash(0);
            noEntry(x, 0, 0);
            entry(x, 1, 0, 9);
        });
        sentence("12: an entry with value 0 is there", () -> {
            Grid x = withTasks(0, 0);
            x.due(OK).submit(0, PUTS, 3, 0);
            entry(x, 0, 3, 0);
        });
        sentence("13: any long", () -> {
            Grid x = withMembers(0, 0);
            deploys(x, 0, PUSH, MIN, PUT, 0, PUSH, 0, END, 0);
            deploys(x, 1, PUSH, MAX, PUT, 0, PUSH, 0, END, 0);
            x.due(OK).submit(0, 0, 17, 0);
            x.due(OK).submit(0, 1, 0, 0);
            entry(x, 0, 17, MIN);
            entry(x, 0, 0, MAX);
        });
        sentence("14: -1 if p is not 0..5", () -> {
            Grid x = withMembers(2, 0, 1, 2, 3, 4);
            for (int p : NO_PARTITIONS) {
                x.due(-1).owner(p);
            }
        });
        sentence("14: -1 if the list is empty", () -> {
            Grid x = new Grid(2);
            for (int p = -1; p <= 6; p++) {
                x.due(-1).owner(p);
            }
        });
        sentence("15: 0 if p is not 0..5", () -> {
            Grid x = withMembers(2, 0, 1, 2, 3, 4);
            for (int p : NO_PARTITIONS) {
                x.due(0).copies(p);
            }
        });
        sentence("15: the empty set if the list is empty", () -> {
            Grid x = new Grid(2);
            for (int p = -1; p <= 6; p++) {
                x.due(0).copies(p);
            }
        });
        sentence("15: bit m for member m", () -> {
            for (int m = 0; m < 5; m++) {
                Grid x = withMembers(0, m);
                for (int p = 0; p < 6; p++) {
                    x.due(1 << m).copies(p);
                }
            }
        });
    }

    // Promise 16

    private static void lostCount() {
        sentence("16: each partition counts, each time", () -> {
            Grid x = withMembers(0, 0, 1, 2, 3, 4);
            x.due(true).crash(0);
            x.due(2).lost();
            x.due(true).crash(1);
            x.due(5).lost();
            x.due(5).lost();
        });
        sentence("16: a partition is lost with entries or without", () -> {
            Grid x = withTasks(0, 0);
            x.due(OK).submit(0, PUTS, 0, 1);
            x.due(true).crash(0);
            x.due(6).lost();
        });
        sentence("16: no loss while another copy stays, nor by join", () -> {
            Grid x = withMembers(1, 0, 1);
            x.due(true).crash(0);
            x.due(true).join(0);
            x.due(0).lost();
        });
        sentence("What it is: 512 calls of one object, of join, crash and lost", () -> {
            Grid x = new Grid(0);
            for (int i = 1; i <= 255; i++) {
                x.due(true).join(i % 5);
                x.due(true).crash(i % 5);
            }
            x.due(6 * 255).lost();
            x.due(-1).migrate();
        });
    }
}
