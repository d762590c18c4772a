/** "An object is used for at most 512 calls after it has been made": up to the 512th all answers are due. */
public final class CallsEdgesTest {
    private static final int MOST = Run.MOST_CALLS;

    public static void main(String[] args) {
        puts();
        servesAndReceives();
        receives();
        manyObjects();
        Checks.end();
    }

    private static void puts() {
        Run x = new Run();
        for (int i = 1; i < MOST; i++) {
            Checks.due("put " + i, x.put(i, 1), i <= 500);
        }
        Checks.due("the 512th call", x.at(499), 500 % 256);
        Checks.due("calls", x.calls(), MOST);
    }

    /** A full server, from which all goes over to the client again and again. */
    private static void servesAndReceives() {
        Run x = new Run();
        int[] parts = new int[0];
        for (int i = 0; i < 8; i++) {
            parts = Checks.join(parts, Checks.part(i, Checks.store(x, Checks.BLOB, Checks.rising(i * 3, 24))));
        }
        int tree = Checks.store(x, Checks.TREE, parts);
        int commit = Checks.store(x, Checks.COMMIT, Checks.commit(tree, 0));
        for (int i = 1; i < 7; i++) {
            commit = Checks.store(x, Checks.COMMIT, Checks.commit(tree, i, commit));
        }
        Checks.due("the server's objects", x.count(0), 16);
        Checks.due("point", x.point(0, commit), true);
        while (x.calls() + 5 <= MOST) {
            Checks.due("want", x.want(commit), true);
            Checks.due("serve", x.serve(), 16);
            Checks.due("receive", x.receive(), 16);
            Checks.due("closure", x.closure(1, commit), 16);
            Checks.due("forget", x.forget(), 16);
        }
        while (x.calls() < MOST - 1) {
            Checks.due("size", x.size() > 0, true);
        }
        Checks.due("the 512th call", x.receive(), 16);
        Checks.due("calls", x.calls(), MOST);
    }

    /** The dearest pack to read: 16 entries, each of which waits for the one behind it. */
    private static void receives() {
        int[][] entries = new int[16][];
        int[] content = {1};
        entries[15] = Checks.whole(Checks.BLOB, content);
        for (int i = 14; i >= 0; i--) {
            int n = content.length;
            entries[i] = Checks.byId(Checks.id(Checks.BLOB, content), n, n + 1, 128 + n, 0, 1, n);
            content = Checks.join(content, Checks.row(n));
        }
        Run x = new Run();
        Checks.due("the first receive", Checks.receive(x, Checks.pack(entries)), 16);
        while (x.calls() < MOST - 1) {
            Checks.due("receive again", x.receive(), 0);
        }
        Checks.due("the 512th call", x.length(1, Checks.id(Checks.BLOB, content)), 16);
        Checks.due("calls", x.calls(), MOST);
    }

    /** Objects do not share anything: each one is new when it is made. */
    private static void manyObjects() {
        for (int i = 0; i < 300; i++) {
            Run x = new Run();
            Checks.due("an empty buffer", x.size(), 0);
            Checks.due("an empty server", x.count(0), 0);
            Checks.due("store", Checks.store(x, Checks.BLOB, i % 256), Checks.id(Checks.BLOB, i % 256));
            Checks.due("have", x.have(i), true);
            Checks.due("put", x.put(i, 4), true);
        }
    }
}
