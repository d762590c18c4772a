import java.util.ArrayList;
import java.util.List;

/**
 * A run of calls on one object of PackStore, kept so that it can be made again on another one.
 * Nothing is promised after the 512th call, so a test that makes more of them is itself at fault.
 */
final class Run {
    static final int MOST_CALLS = 512;

    /** A call that answers a number. */
    interface Call {
        long on(PackStore x);
    }

    /** A call that answers whether it was done. */
    interface Try {
        boolean on(PackStore x);
    }

    private final PackStore object = new PackStore();
    private final List<Call> calls = new ArrayList<>();
    private Run asked;

    int calls() {
        return calls.size();
    }

    long call(Call call) {
        if (calls.size() == MOST_CALLS) {
            throw new IllegalStateException("more than " + MOST_CALLS + " calls on one object");
        }
        calls.add(call);
        asked = null;
        return call.on(object);
    }

    private boolean attempt(Try call) {
        return call(x -> call.on(x) ? 1 : 0) == 1;
    }

    /** Another object after the same calls. */
    Run again() {
        Run other = new Run();
        calls.forEach(other::call);
        return other;
    }

    /** Asks an object after the same calls, so that looking at all bytes takes none of this run's calls. */
    long aside(Call question) {
        if (asked == null || asked.calls() == MOST_CALLS) {
            asked = again();
        }
        return asked.call(question);
    }

    /** A call that answers as is due, behind which all is as it would be without it. */
    void idle(String what, long due, Call call) {
        List<String> before = Looks.of(this);
        Checks.due(what, call(call), due);
        Checks.due(what + ": what is to be seen afterwards", Looks.of(this), before);
    }

    /** A call that is refused by false, behind which all is as it would be without it. */
    void refuses(String what, Try call) {
        idle(what, 0, x -> call.on(x) ? 1 : 0);
    }

    boolean put(int word, int n) {
        return attempt(x -> x.put(word, n));
    }

    boolean set(int p, int b) {
        return attempt(x -> x.set(p, b));
    }

    boolean cut(int n) {
        return attempt(x -> x.cut(n));
    }

    int size() {
        return (int) call(PackStore::size);
    }

    int at(int p) {
        return (int) call(x -> x.at(p));
    }

    int store(int kind) {
        int id = (int) call(x -> x.store(kind));
        Looks.know(id);
        return id;
    }

    boolean point(int r, int id) {
        return attempt(x -> x.point(r, id));
    }

    int ref(int r) {
        return (int) call(x -> x.ref(r));
    }

    boolean want(int id) {
        return attempt(x -> x.want(id));
    }

    boolean have(int id) {
        return attempt(x -> x.have(id));
    }

    int serve() {
        return (int) call(PackStore::serve);
    }

    int receive() {
        return (int) call(PackStore::receive);
    }

    int forget() {
        return (int) call(PackStore::forget);
    }

    int kind(int side, int id) {
        return (int) call(x -> x.kind(side, id));
    }

    int length(int side, int id) {
        return (int) call(x -> x.length(side, id));
    }

    int content(int side, int id, int i) {
        return (int) call(x -> x.content(side, id, i));
    }

    int closure(int side, int id) {
        return (int) call(x -> x.closure(side, id));
    }

    int count(int side) {
        return (int) call(x -> x.count(side));
    }
}
