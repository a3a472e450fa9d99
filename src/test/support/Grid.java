import java.util.ArrayList;
import java.util.List;

/**
 * An object of the class under test that tells which answer is not the one that is due.
 * It counts its calls, because the document says nothing of an object after its 512th call.
 */
final class Grid {
    private static final int MAX_CALLS = 512;

    private final TaskGrid grid;
    private final List<String> answers = new ArrayList<>();
    private boolean isDue = false;
    private long want = 0;

    Grid(int backups) {
        grid = new TaskGrid(backups);
    }

    /** What the next call must answer. */
    Grid due(long answer) {
        isDue = true;
        want = answer;
        return this;
    }

    Grid due(boolean answer) {
        return due(answer ? 1 : 0);
    }

    /** All calls so far, each with its answer. */
    List<String> answers() {
        return answers;
    }

    private long answered(String call, long got) {
        answers.add(call + " answered " + got);
        if (answers.size() > MAX_CALLS) {
            Check.report("call " + answers.size() + " of one object: the test itself is wrong");
        }
        if (isDue && got != want) {
            Check.report("call " + answers.size() + ": " + call + " answered " + got + ", due is " + want);
        }
        isDue = false;
        return got;
    }

    private boolean answered(String call, boolean got) {
        answered(call, got ? 1L : 0L);
        return got;
    }

    private int answered(String call, int got) {
        answered(call, (long) got);
        return got;
    }

    boolean code(long op, long c) {
        return answered("code(" + op + ", " + c + ")", grid.code((int) op, c));
    }

    int deploy(int t) {
        return answered("deploy(" + t + ")", grid.deploy(t));
    }

    boolean join(int m) {
        return answered("join(" + m + ")", grid.join(m));
    }

    boolean crash(int m) {
        return answered("crash(" + m + ")", grid.crash(m));
    }

    boolean leave(int m) {
        return answered("leave(" + m + ")", grid.leave(m));
    }

    int migrate() {
        return answered("migrate()", grid.migrate());
    }

    boolean fault(int kind) {
        return answered("fault(" + kind + ")", grid.fault(kind));
    }

    int submit(int client, int task, int key, int arg) {
        return answered("submit(" + client + ", " + task + ", " + key + ", " + arg + ")", grid.submit(client, task, key, arg));
    }

    int retry(int client) {
        return answered("retry(" + client + ")", grid.retry(client));
    }

    long result(int client) {
        return answered("result(" + client + ")", grid.result(client));
    }

    boolean present(int m, int key) {
        return answered("present(" + m + ", " + key + ")", grid.present(m, key));
    }

    long value(int m, int key) {
        return answered("value(" + m + ", " + key + ")", grid.value(m, key));
    }

    int owner(int p) {
        return answered("owner(" + p + ")", grid.owner(p));
    }

    int copies(int p) {
        return answered("copies(" + p + ")", grid.copies(p));
    }

    int lost() {
        return answered("lost()", grid.lost());
    }

    int executed() {
        return answered("executed()", grid.executed());
    }
}
