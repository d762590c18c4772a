/** Promises 15 to 19 at their edges: one test for each sentence of the document that names one. */
public final class AskEdgesTest {
    private static final int COMMIT = Checks.COMMIT;
    private static final int TREE = Checks.TREE;
    private static final int BLOB = Checks.BLOB;
    private static final int MIN = Integer.MIN_VALUE;
    private static final int MAX = Integer.MAX_VALUE;
    private static final int[] WRONG_SIDES = {-1, 2, 3, 256, MIN, MAX};

    private static final int BLOB_ID = Checks.id(BLOB, 1, 2, 3);
    private static final int TREE_ID = Checks.id(TREE, Checks.part(5, BLOB_ID));
    private static final int FIRST = Checks.id(COMMIT, Checks.commit(TREE_ID, 1));
    private static final int SECOND = Checks.id(COMMIT, Checks.commit(TREE_ID, 2, FIRST));
    private static final int ABC = Checks.id(BLOB, 65, 66, 67);
    // IDs that nobody holds, some of which would be those of held objects if they wrapped around.
    private static final int[] NO_IDS = {
        -1, 0, BLOB_ID - 1, BLOB_ID + 1, BLOB_ID + 65521, BLOB_ID - 65521, BLOB_ID + 65536, BLOB_ID - 65536,
        -BLOB_ID, 65520, 65521, 65535, MIN, MAX,
    };

    public static void main(String[] args) {
        kinds();
        kindsOfNone();
        lengths();
        lengthsOfNone();
        contents();
        contentsOfNone();
        sidesAreApart();
        closures();
        closuresAreCountedOnce();
        closuresOfFullSides();
        closuresNotHeld();
        closuresOfAnotherKind();
        closuresInCircles();
        closuresOfNoSide();
        counts();
        countsOfNoSide();
        idsAtTheEdges();
        Checks.end();
    }

    /** "The kind of the object with that ID on a side" */
    private static void kinds() {
        Run x = Checks.busy();
        for (int i = 0; i < 2; i++) {
            int side = i;
            x.idle("a blob's", BLOB, y -> y.kind(side, BLOB_ID));
            x.idle("a tree's", TREE, y -> y.kind(side, TREE_ID));
            x.idle("a commit's", COMMIT, y -> y.kind(side, FIRST));
        }
    }

    /** "0 if it holds none, or there is no such side." */
    private static void kindsOfNone() {
        Run x = Checks.busy();
        x.idle("one that only the client holds", 0, y -> y.kind(0, ABC));
        x.idle("one that only the server holds", 0, y -> y.kind(1, SECOND));
        for (int id : NO_IDS) {
            x.idle("kind of " + id + " on the server", 0, y -> y.kind(0, id));
            x.idle("kind of " + id + " on the client", 0, y -> y.kind(1, id));
        }
        for (int side : WRONG_SIDES) {
            x.idle("kind on side " + side, 0, y -> y.kind(side, BLOB_ID));
        }
    }

    /** "The number of bytes of the object with that ID on a side" */
    private static void lengths() {
        for (int n = 0; n <= 24; n++) {
            int[] content = Checks.rising(40, n);
            int id = Checks.id(BLOB, content);
            int due = n;
            Run x = Checks.busy();
            Checks.store(x, BLOB, content);
            x.idle("length on the server", due, y -> y.length(0, id));
            x.idle("length on the client that holds none", -1, y -> y.length(1, id));
            Checks.due("receive", Checks.receive(x, Checks.pack(Checks.whole(BLOB, content))), 1);
            x.idle("length on the client", due, y -> y.length(1, id));
        }
    }

    /** "-1 if it holds none, or there is no such side." */
    private static void lengthsOfNone() {
        Run x = Checks.busy();
        x.idle("one that only the client holds", -1, y -> y.length(0, ABC));
        x.idle("one that only the server holds", -1, y -> y.length(1, SECOND));
        for (int id : NO_IDS) {
            x.idle("length of " + id + " on the server", -1, y -> y.length(0, id));
            x.idle("length of " + id + " on the client", -1, y -> y.length(1, id));
        }
        for (int side : WRONG_SIDES) {
            x.idle("length on side " + side, -1, y -> y.length(side, BLOB_ID));
        }
    }

    /** "Byte i of the object with that ID on a side" */
    private static void contents() {
        int[] content = Checks.rising(232, 24);
        content[0] = 0;
        int id = Checks.id(BLOB, content);
        Run x = Checks.busy();
        Checks.store(x, BLOB, content);
        Checks.receive(x, Checks.pack(Checks.whole(BLOB, content)));
        for (int k = 0; k < 24; k++) {
            int i = k;
            x.idle("byte " + i + " on the server", content[i], y -> y.content(0, id, i));
            x.idle("byte " + i + " on the client", content[i], y -> y.content(1, id, i));
        }
    }

    /** "-1 if there is none." */
    private static void contentsOfNone() {
        Run x = Checks.busy();
        int empty = x.cut(0) ? x.store(BLOB) : -1;
        int[] most = Checks.rising(40, 24);
        int longest = Checks.store(x, BLOB, most);
        Checks.receive(x, Checks.pack(Checks.whole(BLOB), Checks.whole(BLOB, most)));
        for (int i = 0; i < 2; i++) {
            int side = i;
            int[] outside = {-1, 3, 4, 24, 25, 256, MIN, MAX};
            for (int k : outside) {
                x.idle("byte " + k + " of three", -1, y -> y.content(side, BLOB_ID, k));
            }
            x.idle("byte 0 of none", -1, y -> y.content(side, empty, 0));
            x.idle("byte 23 of 24", 63, y -> y.content(side, longest, 23));
            x.idle("byte 24 of 24", -1, y -> y.content(side, longest, 24));
            x.idle("byte -1 of 24", -1, y -> y.content(side, longest, -1));
            for (int id : NO_IDS) {
                x.idle("byte 0 of " + id, -1, y -> y.content(side, id, 0));
            }
        }
        x.idle("one that only the client holds", -1, y -> y.content(0, ABC, 0));
        x.idle("one that only the server holds", -1, y -> y.content(1, SECOND, 0));
        for (int side : WRONG_SIDES) {
            x.idle("byte 0 on side " + side, -1, y -> y.content(side, BLOB_ID, 0));
        }
    }

    /** "SIDES: 0 is the SERVER, 1 the CLIENT. Each holds OBJECTS": of one ID it may be different ones. */
    private static void sidesAreApart() {
        Run x = new Run();
        int id = Checks.store(x, BLOB, 0, 2, 14);
        int[] tree = Checks.withId(TREE, 3, id);
        Checks.due("receive", Checks.receive(x, Checks.pack(Checks.whole(TREE, tree))), 1);
        x.idle("kind on the server", BLOB, y -> y.kind(0, id));
        x.idle("kind on the client", TREE, y -> y.kind(1, id));
        x.idle("content on the server", 14, y -> y.content(0, id, 2));
        x.idle("content on the client", tree[2], y -> y.content(1, id, 2));
        x.idle("closure on the server", 1, y -> y.closure(0, id));
        x.idle("closure on the client, which lacks what the tree names", -1, y -> y.closure(1, id));
    }

    /** "How many objects the closure of the object with that ID has on a side" */
    private static void closures() {
        Run x = Checks.busy();
        for (int i = 0; i < 2; i++) {
            int side = i;
            x.idle("a blob's", 1, y -> y.closure(side, BLOB_ID));
            x.idle("a tree's", 2, y -> y.closure(side, TREE_ID));
            x.idle("a first commit's", 3, y -> y.closure(side, FIRST));
        }
        x.idle("a second commit's", 4, y -> y.closure(0, SECOND));
        x.cut(0);
        int empty = x.store(TREE);
        x.idle("an empty tree's", 1, y -> y.closure(0, empty));
    }

    /** "it, what it names, what that names, and so on": each object counts once, however often it is named. */
    private static void closuresAreCountedOnce() {
        Run x = new Run();
        int blob = Checks.store(x, BLOB, 1);
        int[] parts = new int[0];
        for (int i = 0; i < 8; i++) {
            parts = Checks.join(parts, Checks.part(i, blob));
        }
        int tree = Checks.store(x, TREE, parts);
        int outer = Checks.store(x, TREE, Checks.join(Checks.part(1, tree), Checks.part(2, blob), Checks.part(3, tree)));
        int first = Checks.store(x, COMMIT, Checks.commit(outer, 1));
        int left = Checks.store(x, COMMIT, Checks.commit(outer, 2, first));
        int right = Checks.store(x, COMMIT, Checks.commit(tree, 3, first, first));
        int merge = Checks.store(x, COMMIT, Checks.commit(tree, 4, left, right));
        x.idle("eight parts that are one", 2, y -> y.closure(0, tree));
        x.idle("a tree twice", 3, y -> y.closure(0, outer));
        x.idle("one parent twice", 5, y -> y.closure(0, right));
        x.idle("two ways to the first commit", 7, y -> y.closure(0, merge));
    }

    /** The largest closures: all 16 objects of a full server, all 24 of a full client. */
    private static void closuresOfFullSides() {
        Run x = new Run();
        int tree = x.store(TREE);
        int[][] entries = new int[24][];
        entries[23] = Checks.whole(TREE);
        int commit = -1;
        for (int i = 0; i < 23; i++) {
            int[] content = i == 0 ? Checks.commit(tree, i) : Checks.commit(tree, i, commit);
            entries[22 - i] = Checks.whole(COMMIT, content);
            commit = Checks.id(COMMIT, content);
            if (i < 15) {
                Checks.due("store", Checks.store(x, COMMIT, content), commit);
            }
            int top = commit;
            long due = i < 15 ? i + 2 : -1;
            x.idle("closure on the server", due, y -> y.closure(0, top));
        }
        int last = commit;
        Checks.due("receive", Checks.receive(x, Checks.pack(java.util.Arrays.copyOf(entries, 12))), 12);
        x.idle("half of it on the client", -1, y -> y.closure(1, last));
        Checks.due("receive", Checks.receive(x, Checks.pack(java.util.Arrays.copyOfRange(entries, 12, 23))), 11);
        x.idle("all but the tree", -1, y -> y.closure(1, last));
        Checks.due("receive", Checks.receive(x, Checks.pack(entries[23])), 1);
        x.idle("all 24", 24, y -> y.closure(1, last));
    }

    /** "-1 if the side does not hold all of it" */
    private static void closuresNotHeld() {
        int blob = Checks.id(BLOB, 5);
        int[] inner = Checks.part(1, blob);
        int innerId = Checks.id(TREE, inner);
        int[] outer = Checks.part(2, innerId);
        int outerId = Checks.id(TREE, outer);
        int[] first = Checks.commit(outerId, 1);
        int firstId = Checks.id(COMMIT, first);
        int[] second = Checks.commit(outerId, 2, firstId);
        int top = Checks.id(COMMIT, second);
        int[][] all = {
            Checks.whole(BLOB, 5), Checks.whole(TREE, inner), Checks.whole(TREE, outer),
            Checks.whole(COMMIT, first), Checks.whole(COMMIT, second),
        };
        for (int without = 0; without < 5; without++) {
            int[][] some = new int[4][];
            for (int i = 0; i < 4; i++) {
                some[i] = all[i < without ? i : i + 1];
            }
            Run x = new Run();
            Checks.due("receive", Checks.receive(x, Checks.pack(some)), 4);
            x.idle("all but " + without, -1, y -> y.closure(1, top));
            long innerDue = without > 1 ? 2 : -1;
            x.idle("the tree inside, without " + without, innerDue, y -> y.closure(1, innerId));
            Checks.due("receive of the rest", Checks.receive(x, Checks.pack(all[without])), 1);
            x.idle("all", 5, y -> y.closure(1, top));
            x.idle("on the server", -1, y -> y.closure(0, top));
        }
        Run x = Checks.busy();
        for (int id : NO_IDS) {
            x.idle("closure of " + id + " on the server", -1, y -> y.closure(0, id));
            x.idle("closure of " + id + " on the client", -1, y -> y.closure(1, id));
        }
        x.idle("one that only the client holds", -1, y -> y.closure(0, ABC));
        x.idle("one that only the server holds", -1, y -> y.closure(1, SECOND));
    }

    /** "(or holds another kind of object there)" */
    private static void closuresOfAnotherKind() {
        int[][] wrong = {
            Checks.commit(BLOB_ID, 9), Checks.commit(FIRST, 9), Checks.commit(TREE_ID, 9, TREE_ID),
            Checks.commit(TREE_ID, 9, BLOB_ID), Checks.commit(TREE_ID, 9, FIRST, TREE_ID),
            Checks.commit(TREE_ID, 9, FIRST, BLOB_ID), Checks.commit(TREE_ID, 9, TREE_ID, FIRST),
        };
        for (int[] content : wrong) {
            ofAnotherKind(COMMIT, content);
        }
        ofAnotherKind(TREE, Checks.part(0, FIRST));
        ofAnotherKind(TREE, Checks.join(Checks.part(0, BLOB_ID), Checks.part(1, FIRST)));
        ofAnotherKind(TREE, Checks.join(Checks.part(0, FIRST), Checks.part(1, BLOB_ID)));
        Run x = Checks.busy();
        int[] right = Checks.commit(TREE_ID, 9, FIRST, FIRST);
        Checks.due("receive", Checks.receive(x, Checks.pack(Checks.whole(COMMIT, right))), 1);
        x.idle("the right kinds", 4, y -> y.closure(1, Checks.id(COMMIT, right)));
    }

    private static void ofAnotherKind(int kind, int... content) {
        Run x = Checks.busy();
        int id = Checks.id(kind, content);
        Checks.due("receive", Checks.receive(x, Checks.pack(Checks.whole(kind, content))), 1);
        x.idle("an object that names another kind", -1, y -> y.closure(1, id));
        x.idle("what it names is there", 3, y -> y.closure(1, FIRST));
    }

    /** The client's objects may name one another in a circle; their closure has an end all the same. */
    private static void closuresInCircles() {
        int[] tree = null;
        int[] commit = null;
        int[] here = null;
        int[] there = null;
        for (int i = 0; i < 65521 * 4; i++) {
            int id = i % 65521;
            int choice = i / 65521;
            int[] own = Checks.join(Checks.part(choice, id), Checks.part(200, BLOB_ID));
            tree = hashOf(TREE, own) == id ? own : tree;
            int[] parents = Checks.commit(TREE_ID, choice, id, id);
            commit = hashOf(COMMIT, parents) == id ? parents : commit;
            int[] other = Checks.part(200, hashOf(TREE, own));
            if (hashOf(TREE, other) == id) {
                here = own;
                there = other;
            }
        }
        Run x = Checks.busy();
        Checks.due("receive", Checks.receive(x, Checks.pack(Checks.whole(TREE, tree), Checks.whole(COMMIT, commit),
            Checks.whole(TREE, here), Checks.whole(TREE, there))), 4);
        inCircle(x, "a tree in itself", 2, Checks.id(TREE, tree));
        inCircle(x, "a commit that is its own parent twice", 3, Checks.id(COMMIT, commit));
        inCircle(x, "a tree in a tree in itself", 3, Checks.id(TREE, here));
        inCircle(x, "the other tree of these two", 3, Checks.id(TREE, there));
    }

    private static int hashOf(int kind, int... content) {
        return Checks.hash(Checks.join(Checks.row(kind, content.length), content));
    }

    private static void inCircle(Run x, String what, int due, int id) {
        x.idle(what, due, y -> y.closure(1, id));
    }

    /** "or there is no such side." */
    private static void closuresOfNoSide() {
        Run x = Checks.busy();
        for (int side : WRONG_SIDES) {
            x.idle("closure on side " + side, -1, y -> y.closure(side, BLOB_ID));
            x.idle("closure of nothing on side " + side, -1, y -> y.closure(side, -1));
        }
    }

    /** "How many objects a side holds" */
    private static void counts() {
        Run x = new Run();
        x.idle("an empty server", 0, y -> y.count(0));
        x.idle("an empty client", 0, y -> y.count(1));
        for (int i = 1; i <= 16; i++) {
            int due = i;
            Checks.store(x, BLOB, i);
            x.idle("the server's", due, y -> y.count(0));
        }
        Checks.store(x, BLOB, 17);
        x.idle("a full server's", 16, y -> y.count(0));
        for (int i = 1; i <= 24; i++) {
            int due = i;
            Checks.receive(x, Checks.pack(Checks.whole(BLOB, i)));
            x.idle("the client's", due, y -> y.count(1));
        }
        Checks.receive(x, Checks.pack(Checks.whole(BLOB, 25)));
        x.idle("a full client's", 24, y -> y.count(1));
        x.idle("the server's still", 16, y -> y.count(0));
    }

    /** "-1 if there is no such side." */
    private static void countsOfNoSide() {
        Run x = Checks.busy();
        for (int side : WRONG_SIDES) {
            x.idle("count of side " + side, -1, y -> y.count(side));
            new Run().idle("count of side " + side + " of a new object", -1, y -> y.count(side));
        }
    }

    /** The same sentences for objects of the lowest and of the highest ID. */
    private static void idsAtTheEdges() {
        int[] edges = {0, 65520};
        for (int id : edges) {
            Run x = Checks.busy();
            int[] blob = Checks.withId(BLOB, 4, id);
            Checks.due("store", Checks.store(x, BLOB, blob), id);
            Checks.due("receive", Checks.receive(x, Checks.pack(Checks.whole(BLOB, blob))), 1);
            for (int i = 0; i < 2; i++) {
                int side = i;
                x.idle("kind of " + id, BLOB, y -> y.kind(side, id));
                x.idle("length of " + id, 4, y -> y.length(side, id));
                x.idle("content of " + id, blob[3], y -> y.content(side, id, 3));
                x.idle("closure of " + id, 1, y -> y.closure(side, id));
            }
        }
    }
}
