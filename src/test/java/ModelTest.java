import java.util.ArrayDeque;
import java.util.ArrayList;
import java.util.Deque;
import java.util.HashMap;
import java.util.HashSet;
import java.util.List;
import java.util.Map;
import java.util.Set;

// Long runs of calls on the class and on a second model of the document, which holds every copy by itself.
public final class ModelTest {
    private static final int RUNS = 3000, CALLS = 512;
    private static final int[] TAKES = {0, 0, 0, 0, 2, 2, 2, 2, 2, 2, 2, 2, 2, 2, 2, 1, 2, 1, 1, 0, 0, 1, 0, 1};
    private static final int[] CHANGE = {1, 1, 1, 1, -1, -1, -1, -1, -1, -1, -1, -1, -1, -1, -1, 1, 0, -1, -1, 0, 0, -1, 0, -1};

    private record Instruction(int op, long c) { }

    private record Pair(long i, int d) { }

    private record Request(int number, int task, int key, int arg) { }

    private record Outcome(int number, int code, long result) { }

    /** The copy of one partition at one member. */
    private static final class Copy {
        final Map<Integer, Long> entries = new HashMap<>();
        final Map<Integer, Outcome> records = new HashMap<>();

        Copy same() {
            Copy copy = new Copy();
            copy.entries.putAll(entries);
            copy.records.putAll(records);
            return copy;
        }
    }

    private static final class Model {
        final int backups;
        final Set<Integer> live = new HashSet<>();
        final List<List<Integer>> lists = new ArrayList<>();
        final Copy[][] held = new Copy[5][6];
        final Map<Integer, List<Instruction>> tasks = new HashMap<>();
        List<Instruction> draft = new ArrayList<>();
        final Request[] latest = new Request[3];
        final boolean[] answered = new boolean[3];
        final long[] results = new long[3];
        int fault = 0;
        int lost = 0;
        int executed = 0;

        Model(int backups) {
            this.backups = Math.max(0, Math.min(2, backups));
            for (int p = 0; p < 6; p++) {
                lists.add(new ArrayList<>());
            }
        }

        List<Integer> wanted(int p, int butNot) {
            List<Integer> wanted = new ArrayList<>();
            for (int i = p; i < p + 5; i++) {
                if (live.contains(i % 5) && i % 5 != butNot) {
                    wanted.add(i % 5);
                }
            }
            return wanted.subList(0, Math.min(wanted.size(), 1 + backups));
        }

        void give(int p, List<Integer> members, Copy copy) {
            for (int m = 0; m < 5; m++) {
                held[m][p] = members.contains(m) ? copy.same() : null;
            }
            lists.set(p, new ArrayList<>(members));
        }

        Copy ownersCopy(int p) {
            return held[lists.get(p).get(0)][p];
        }

        void dropOut(int m) {
            live.remove(m);
            for (int p = 0; p < 6; p++) {
                held[m][p] = null;
                lists.get(p).remove((Integer) m);
                if (lists.get(p).isEmpty()) {
                    lost++;
                    List<Integer> wanted = wanted(p, -1);
                    give(p, wanted.subList(0, Math.min(1, wanted.size())), new Copy());
                }
            }
        }

        boolean code(int op, long c) {
            return op >= 0 && op <= 23 && draft.size() < 16 && draft.add(new Instruction(op, c));
        }

        static List<Long> following(long i, Instruction at) {
            return switch (at.op) {
                case 20 -> List.of(at.c);
                case 21 -> List.of(i + 1, at.c);
                case 22, 23 -> List.of();
                default -> List.of(i + 1);
            };
        }

        static int leastFaulty(List<Instruction> program) {
            Set<Pair> pairs = new HashSet<>();
            Deque<Pair> open = new ArrayDeque<>();
            open.add(new Pair(0, 0));
            while (!open.isEmpty()) {
                Pair pair = open.remove();
                if (!pairs.add(pair)) {
                    continue;
                }
                Instruction at = program.get((int) pair.i);
                int after = pair.d + CHANGE[at.op];
                if (pair.d >= TAKES[at.op] && after <= 4) {
                    for (long n : following(pair.i, at)) {
                        if (n >= 0 && n < program.size()) {
                            open.add(new Pair(n, after));
                        }
                    }
                }
            }
            long least = 99;
            for (Pair pair : pairs) {
                Instruction at = program.get((int) pair.i);
                boolean faulty = pair.d < TAKES[at.op] || pair.d + CHANGE[at.op] > 4;
                faulty |= pairs.stream().anyMatch(other -> other.i == pair.i && other.d != pair.d);
                faulty |= following(pair.i, at).stream().anyMatch(n -> n < 0 || n >= program.size());
                least = faulty ? Math.min(least, pair.i) : least;
            }
            return (int) least;
        }

        int deploy(int t) {
            List<Instruction> program = draft;
            draft = new ArrayList<>();
            if (t < 0 || t > 3 || program.isEmpty()) {
                return -1;
            }
            int faulty = leastFaulty(program);
            if (faulty < 16) {
                return 16 + faulty;
            }
            tasks.put(t, program);
            return 0;
        }

        boolean join(int m) {
            if (m < 0 || m > 4 || !live.add(m)) {
                return false;
            }
            for (int p = 0; p < 6; p++) {
                if (lists.get(p).isEmpty()) {
                    give(p, List.of(m), new Copy());
                }
            }
            return true;
        }

        boolean crash(int m) {
            if (!live.contains(m)) {
                return false;
            }
            dropOut(m);
            return true;
        }

        boolean leave(int m) {
            if (!live.contains(m)) {
                return false;
            }
            for (int p = 0; p < 6; p++) {
                List<Integer> heirs = wanted(p, m);
                if (lists.get(p).equals(List.of(m)) && !heirs.isEmpty()) {
                    give(p, List.of(heirs.get(0)), held[m][p]);
                }
            }
            dropOut(m);
            return true;
        }

        int migrate() {
            for (int p = 0; p < 6; p++) {
                if (!lists.get(p).equals(wanted(p, -1))) {
                    give(p, wanted(p, -1), ownersCopy(p));
                    return p;
                }
            }
            return -1;
        }

        boolean fault(int kind) {
            if (kind < 0 || kind > 4) {
                return false;
            }
            fault = kind;
            return true;
        }

        int submit(int client, int task, int key, int arg) {
            if (client < 0 || client > 2 || key < 0 || key > 17) {
                return -1;
            }
            int number = latest[client] == null ? 1 : latest[client].number + 1;
            latest[client] = new Request(number, task, key, arg);
            answered[client] = false;
            return send(client);
        }

        int retry(int client) {
            if (client < 0 || client > 2 || latest[client] == null || answered[client]) {
                return -1;
            }
            return send(client);
        }

        int send(int client) {
            int kind = fault;
            fault = 0;
            if (live.isEmpty()) {
                return 4;
            }
            if (kind == 1) {
                return 5;
            }
            Request request = latest[client];
            int p = request.key % 6;
            int owner = lists.get(p).get(0);
            Copy copy = held[owner][p];
            Outcome outcome = copy.records.get(client);
            if (outcome == null || outcome.number != request.number) {
                executed++;
                outcome = run(request, copy.entries);
                copy.records.put(client, outcome);
            }
            if (kind != 2) {
                for (int m : lists.get(p)) {
                    held[m][p] = copy.same();
                }
            }
            if (kind == 2 || kind == 3) {
                dropOut(owner);
            }
            if (kind != 0) {
                return 5;
            }
            answered[client] = true;
            results[client] = outcome.result;
            return outcome.code;
        }

        Outcome run(Request request, Map<Integer, Long> entries) {
            List<Instruction> program = tasks.get(request.task);
            if (program == null) {
                return new Outcome(request.number, 3, 0);
            }
            Long view = entries.get(request.key);
            Deque<Long> stack = new ArrayDeque<>();
            int next = 0;
            for (int ran = 0; ran < 80; ran++) {
                Instruction at = program.get(next);
                next++;
                if (at.op >= 4 && at.op <= 14) {
                    long y = stack.pop();
                    long x = stack.pop();
                    if (y == 0 && (at.op == 7 || at.op == 8)) {
                        return new Outcome(request.number, 1, 0);
                    }
                    stack.push(binary(at.op, x, y));
                    continue;
                }
                switch (at.op) {
                    case 0 -> stack.push(at.c);
                    case 1 -> stack.push(view == null ? 0L : view);
                    case 2 -> stack.push(view == null ? 0L : 1L);
                    case 3 -> stack.push((long) request.arg);
                    case 15 -> stack.push(stack.peek());
                    case 16 -> {
                        long top = stack.pop();
                        long below = stack.pop();
                        stack.push(top);
                        stack.push(below);
                    }
                    case 17 -> stack.pop();
                    case 18 -> view = stack.pop();
                    case 19 -> view = null;
                    case 20 -> next = (int) at.c;
                    case 21 -> next = stack.pop() == 0 ? (int) at.c : next;
                    case 22 -> {
                        return new Outcome(request.number, 1, 0);
                    }
                    default -> {
                        entries.remove(request.key);
                        if (view != null) {
                            entries.put(request.key, view);
                        }
                        return new Outcome(request.number, 0, stack.pop());
                    }
                }
            }
            return new Outcome(request.number, 2, 0);
        }

        static long binary(int op, long x, long y) {
            return switch (op) {
                case 4 -> x + y;
                case 5 -> x - y;
                case 6 -> x * y;
                case 7 -> x / y;
                case 8 -> x % y;
                case 9 -> x & y;
                case 10 -> x ^ y;
                case 11 -> x << (int) (y & 63);
                case 12 -> x >> (int) (y & 63);
                case 13 -> x >>> (int) (y & 63);
                default -> x < y ? 1 : 0;
            };
        }

        long result(int client) {
            return client < 0 || client > 2 ? 0 : results[client];
        }

        Long entry(int m, int key) {
            if (m < 0 || m > 4 || key < 0 || key > 17 || held[m][key % 6] == null) {
                return null;
            }
            return held[m][key % 6].entries.get(key);
        }

        int owner(int p) {
            return p < 0 || p > 5 || lists.get(p).isEmpty() ? -1 : lists.get(p).get(0);
        }

        int copies(int p) {
            int set = 0;
            for (int m = 0; p >= 0 && p < 6 && m < 5; m++) {
                set += held[m][p] != null ? 1 << m : 0;
            }
            return set;
        }
    }

    // A simple sequence of numbers, the same in every run of the test.
    private static long seed = 20261115;

    private static int pick(int bound) {
        seed = seed * 6364136223846793005L + 1442695040888963407L;
        return (int) ((seed >>> 33) % bound);
    }

    /** Mostly 0..bound-1, at times a number outside. */
    private static int near(int bound) {
        int[] odd = {-1, bound, Integer.MIN_VALUE, Integer.MAX_VALUE, -bound, 32};
        return pick(25) == 0 ? odd[pick(odd.length)] : pick(bound);
    }

    private static long constant() {
        long[] some = {0, 0, 1, 1, 2, 3, -1, 63, 64, 1L << 32, Long.MIN_VALUE, Long.MAX_VALUE, -77};
        return some[pick(some.length)];
    }

    private static TaskGrid grid;
    private static Model model;
    private static int run;
    private static int calls;
    private static int wrong = 0;
    private static final Map<String, Integer> seen = new HashMap<>();

    private static void same(String call, long got, long want) {
        calls++;
        String kind = call.substring(0, call.indexOf('('));
        if (kind.equals("submit") || kind.equals("retry")) {
            seen.merge(kind + " " + want, 1, Integer::sum);
        } else if (kind.equals("deploy")) {
            seen.merge(kind + " " + (want >= 16 ? "faulty" : "" + want), 1, Integer::sum);
        }
        if (got != want && wrong++ < 20) {
            System.out.println("run " + run + ", call " + calls + ": " + call + " answered " + got + ", due is " + want);
        }
    }

    private static long number(boolean b) {
        return b ? 1 : 0;
    }

    private static void code(int op, long c) {
        same("code(" + op + ", " + c + ")", number(grid.code(op, c)), number(model.code(op, c)));
    }

    private static void deploy(int t) {
        same("deploy(" + t + ")", grid.deploy(t), model.deploy(t));
    }

    /** A program whose heights fit as long as no jump goes astray. */
    private static void likelyProgram() {
        int size = 2 + pick(15);
        int d = 0;
        for (int i = 0; i < size; i++) {
            int op = i == size - 1 ? (d > 0 ? 23 : 22) : pick(22);
            for (int tries = 0; tries < 50 && (d < TAKES[op] || d + CHANGE[op] > 4); tries++) {
                op = pick(22);
            }
            code(op, op == 20 || op == 21 ? (pick(3) == 0 ? pick(size) : Math.min(i + 1 + pick(2), size - 1)) : constant());
            d += CHANGE[op];
        }
    }

    private static void oddProgram() {
        int size = pick(19);
        for (int i = 0; i < size; i++) {
            int op = near(24);
            code(op, op == 20 || op == 21 ? near(size) : constant());
        }
    }

    private static void oneCall() {
        int m = near(5);
        int client = near(3);
        int key = near(18);
        int p = near(6);
        int arg = pick(4) == 0 ? (int) constant() : pick(20) - 5;
        switch (pick(26)) {
            case 0 -> same("join(" + m + ")", number(grid.join(m)), number(model.join(m)));
            case 1 -> same("join(" + m + ")", number(grid.join(m)), number(model.join(m)));
            case 2 -> same("crash(" + m + ")", number(grid.crash(m)), number(model.crash(m)));
            case 3 -> same("leave(" + m + ")", number(grid.leave(m)), number(model.leave(m)));
            case 4, 5, 6, 7 -> same("migrate()", grid.migrate(), model.migrate());
            case 8, 9 -> {
                int kind = near(5);
                same("fault(" + kind + ")", number(grid.fault(kind)), number(model.fault(kind)));
            }
            case 10, 11, 12, 13 -> {
                int task = near(4);
                int few = pick(2) == 0 ? pick(3) * 6 : key;
                same("submit(" + client + ", " + task + ", " + few + ", " + arg + ")",
                    grid.submit(client, task, few, arg), model.submit(client, task, few, arg));
            }
            case 14, 15, 16 -> same("retry(" + client + ")", grid.retry(client), model.retry(client));
            case 17 -> same("result(" + client + ")", grid.result(client), model.result(client));
            case 18, 19 -> same("present(" + m + ", " + key + ")", number(grid.present(m, key)), number(model.entry(m, key) != null));
            case 20, 21 -> {
                Long entry = model.entry(m, key);
                same("value(" + m + ", " + key + ")", grid.value(m, key), entry == null ? 0 : entry);
            }
            case 22 -> same("owner(" + p + ")", grid.owner(p), model.owner(p));
            case 23 -> same("copies(" + p + ")", grid.copies(p), model.copies(p));
            case 24 -> {
                same("lost()", grid.lost(), model.lost);
                same("executed()", grid.executed(), model.executed);
            }
            default -> {
                if (pick(3) == 0) {
                    oddProgram();
                } else {
                    likelyProgram();
                }
                deploy(near(4));
            }
        }
    }

    private static void finalLook() {
        for (int p = 0; p < 6; p++) {
            same("owner(" + p + ")", grid.owner(p), model.owner(p));
            same("copies(" + p + ")", grid.copies(p), model.copies(p));
        }
        for (int at = 0; at < 90; at++) {
            Long entry = model.entry(at / 18, at % 18);
            same("present(" + at / 18 + ", " + at % 18 + ")", number(grid.present(at / 18, at % 18)), number(entry != null));
            same("value(" + at / 18 + ", " + at % 18 + ")", grid.value(at / 18, at % 18), entry == null ? 0 : entry);
        }
        same("lost()", grid.lost(), model.lost);
        same("executed()", grid.executed(), model.executed);
    }

    public static void main(String[] args) {
        Check.begin();
        for (run = 1; run <= RUNS; run++) {
            int backups = pick(6) - 1;
            grid = new TaskGrid(backups);
            model = new Model(backups);
            calls = 0;
            // A call of oneCall may be up to 20 calls of the object; the last look is 194.
            while (calls < CALLS - 20 - 194) {
                oneCall();
            }
            finalLook();
        }
        for (String due : List.of("submit 0", "submit 1", "submit 2", "submit 3", "submit 4", "submit 5", "submit -1",
            "retry 0", "retry 1", "retry 2", "retry 3", "retry 4", "retry 5", "retry -1", "deploy 0", "deploy -1", "deploy faulty")) {
            if (seen.getOrDefault(due, 0) < 50) {
                wrong++;
                System.out.println("the runs had too little of: " + due + " (" + seen.get(due) + ")");
            }
        }
        System.out.println(wrong == 0 ? "all answers are as due" : wrong + " answers are not as due");
        if (wrong != 0) {
            System.exit(1);
        }
    }
}
