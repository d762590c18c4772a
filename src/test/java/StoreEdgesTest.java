import java.util.Arrays;

/** Promise 7 and the terms it rests on at their edges: one test for each sentence that names one. */
public final class StoreEdgesTest {
    private static final int COMMIT = Checks.COMMIT;
    private static final int TREE = Checks.TREE;
    private static final int BLOB = Checks.BLOB;
    private static final int MOST = 24;

    public static void main(String[] args) {
        becomesAnObject();
        heldAlready();
        idsAtTheEdges();
        idInTwoBytes();
        wrongKinds();
        mostBytes();
        bytesOfAllValues();
        partsOfThreeBytes();
        namesRising();
        commitLengths();
        blobsAlwaysWellFormed();
        namesWhatIsNotHeld();
        treeNamesTreesAndBlobs();
        commitNamesATree();
        parentsAreCommits();
        anotherOfThatId();
        atMostSixteen();
        Checks.end();
    }

    private static void stores(String what, Run x, int kind, int... content) {
        int before = (int) x.aside(y -> y.count(0));
        int id = Checks.id(kind, content);
        Checks.due(what + ": the ID", Checks.store(x, kind, content), id);
        Checks.due(what + ": the buffer", x.size(), 0);
        Checks.due(what + ": count", x.count(0), before + 1);
        Checks.due(what + ": kind", x.kind(0, id), kind);
        Checks.due(what + ": length", x.length(0, id), content.length);
        Checks.due(what + ": content", Checks.content(x, 0, id), content);
    }

    private static void refuses(String what, Run x, int kind, int... content) {
        Checks.fill(x, content);
        x.idle(what, -1, y -> y.store(kind));
    }

    /** A server that holds n blobs. */
    private static Run withBlobs(int n) {
        Run x = new Run();
        for (int i = 0; i < n; i++) {
            Checks.due("store", Checks.store(x, BLOB, i), Checks.id(BLOB, i));
        }
        return x;
    }

    /** "The bytes of the buffer become an object of the server" ... "the buffer is empty then. Its ID." */
    private static void becomesAnObject() {
        Run x = Checks.busy();
        int ref = x.ref(0);
        int client = x.count(1);
        stores("an empty blob", x, BLOB);
        stores("a blob of one byte", x, BLOB, 200);
        stores("an empty tree", x, TREE);
        Checks.due("the empty blob's ID", Checks.id(BLOB), 4467);
        Checks.due("the client's objects", x.count(1), client);
        Checks.due("the ref", x.ref(0), ref);
    }

    /** "if it does not hold the same one already"; "A side holds at most one object of an ID." */
    private static void heldAlready() {
        Run x = Checks.busy();
        int id = Checks.id(BLOB, 1, 2, 3);
        Checks.due("a blob that is held", Checks.store(x, BLOB, 1, 2, 3), id);
        Checks.due("the buffer", x.size(), 0);
        Checks.due("count", x.count(0), 4);
        int[] tree = Checks.part(5, id);
        Checks.due("a tree that is held", Checks.store(x, TREE, tree), Checks.id(TREE, tree));
        Checks.due("count", x.count(0), 4);
        Run one = new Run();
        Checks.due("the empty blob", one.store(BLOB), 4467);
        one.idle("the empty blob again", 4467, y -> y.store(BLOB));
        Run empty = new Run();
        empty.store(TREE);
        Checks.due("the empty blob, not the empty tree", empty.store(BLOB), 4467);
        Checks.due("both", empty.count(0), 2);
        Run client = Checks.withClient(Checks.row(5));
        stores("one that only the client holds", client, BLOB, 5);
    }

    /** "h = (h * 257 + x) mod 65521" */
    private static void idsAtTheEdges() {
        int[] edges = {0, 1, 65519, 65520};
        for (int id : edges) {
            Run x = new Run();
            int[] blob = Checks.withId(BLOB, 4, id);
            Checks.due("a blob of the ID " + id, Checks.store(x, BLOB, blob), id);
            Checks.due("kind", x.kind(0, id), BLOB);
            stores("a tree of it", x, TREE, Checks.part(1, id));
            Run y = new Run();
            Checks.storeCommitOfId(y, id);
            Checks.due("a commit of the ID " + id, y.kind(0, id), COMMIT);
            Checks.due("its closure", y.closure(0, id), 3);
        }
        int[] most = Checks.times(MOST, 255);
        Checks.due("24 bytes of 255", Checks.store(new Run(), BLOB, most), Checks.id(BLOB, most));
    }

    /** "in bytes an ID is written in two, the higher one first" */
    private static void idInTwoBytes() {
        int[] ids = {0, 127, 128, 255, 256, 257, 0x7FFF, 0x8000, 0xFE01, 0xFF00, 65520};
        for (int id : ids) {
            Run x = new Run();
            Checks.due("a blob", Checks.store(x, BLOB, Checks.withId(BLOB, 4, id)), id);
            int[] tree = {7, id / 256, id % 256};
            stores("a tree of " + id, x, TREE, tree);
            if (id / 256 != id % 256) {
                refuses("the lower byte first", x, TREE, 7, id % 256, id / 256);
            }
        }
    }

    /** "-1, refused, if kind is not 1 .. 3" */
    private static void wrongKinds() {
        int[] wrong = {0, 4, -1, 5, 6, 7, 257, Integer.MIN_VALUE, Integer.MAX_VALUE};
        for (int kind : wrong) {
            refuses("kind " + kind, Checks.busy(), kind, 1, 2, 3);
            refuses("kind " + kind + " of an empty buffer", Checks.busy(), kind);
        }
    }

    /** "there are more than 24 bytes" */
    private static void mostBytes() {
        stores("23 bytes", Checks.busy(), BLOB, Checks.rising(100, MOST - 1));
        stores("24 bytes", Checks.busy(), BLOB, Checks.rising(100, MOST));
        refuses("25 bytes", Checks.busy(), BLOB, Checks.rising(100, MOST + 1));
        refuses("26 bytes", Checks.busy(), BLOB, Checks.rising(100, MOST + 2));
        refuses("500 bytes", Checks.busy(), BLOB, Checks.times(500, 3));
        Run x = Checks.busy();
        int blob = Checks.id(BLOB, 1, 2, 3);
        int[] parts = new int[0];
        for (int i = 0; i < 8; i++) {
            parts = Checks.join(parts, Checks.part(i, blob));
        }
        refuses("a tree of nine parts", x, TREE, Checks.join(parts, Checks.part(8, blob)));
        stores("a tree of eight parts", x, TREE, parts);
    }

    /** "a CONTENT of 0 .. 24 bytes (0 .. 255)" */
    private static void bytesOfAllValues() {
        for (int first = 0; first < 256; first += 16) {
            stores("the bytes from " + first, new Run(), BLOB, Checks.rising(first, 16));
        }
        for (int n = 0; n <= MOST; n++) {
            stores(n + " bytes", new Run(), BLOB, Checks.times(n, 255));
            stores(n + " bytes of 0", new Run(), BLOB, Checks.times(n, 0));
        }
    }

    /** "A TREE's content is WELL FORMED if it is parts of three bytes each, a name and an ID" */
    private static void partsOfThreeBytes() {
        int blob = Checks.id(BLOB, 1, 2, 3);
        int[] parts = new int[0];
        for (int i = 0; i < 8; i++) {
            parts = Checks.join(parts, Checks.part(30 + i, blob));
        }
        for (int n = 0; n <= MOST; n++) {
            // The tree of one part under another name than the one that is held already.
            int[] content = Arrays.copyOf(parts, n);
            if (n % 3 == 0) {
                stores("a tree of " + n + " bytes", Checks.busy(), TREE, content);
            } else {
                refuses("a tree of " + n + " bytes", Checks.busy(), TREE, content);
            }
        }
    }

    /** "the names rising (none twice)" */
    private static void namesRising() {
        int blob = Checks.id(BLOB, 1, 2, 3);
        int[][] good = {{0, 255}, {0, 1}, {254, 255}, {127, 128}, {0, 1, 2, 3, 4, 5, 6, 7}, {0, 7, 127, 128, 255}};
        for (int[] names : good) {
            stores("the names " + Arrays.toString(names), Checks.busy(), TREE, treeOf(blob, names));
            for (int i = 1; i < names.length; i++) {
                int[] twice = names.clone();
                twice[i] = twice[i - 1];
                refuses("the names " + Arrays.toString(twice), Checks.busy(), TREE, treeOf(blob, twice));
                int[] falling = names.clone();
                falling[i] = names[i - 1];
                falling[i - 1] = names[i];
                refuses("the names " + Arrays.toString(falling), Checks.busy(), TREE, treeOf(blob, falling));
            }
        }
        refuses("the first name again at the end", Checks.busy(), TREE, treeOf(blob, 1, 2, 1));
    }

    private static int[] treeOf(int id, int... names) {
        int[] content = new int[0];
        for (int name : names) {
            content = Checks.join(content, Checks.part(name, id));
        }
        return content;
    }

    /** "A COMMIT's is, if it has 3, 5 or 7 bytes: the ID of a tree, those of no, one or two parents, and a byte." */
    private static void commitLengths() {
        int tree = Checks.id(TREE, Checks.part(5, Checks.id(BLOB, 1, 2, 3)));
        int parent = Checks.id(COMMIT, Checks.commit(tree, 1));
        int[] content = Checks.two(tree);
        for (int i = 0; i < 11; i++) {
            content = Checks.join(content, Checks.two(parent));
        }
        for (int n = 0; n <= MOST; n++) {
            int[] part = Arrays.copyOf(content, n);
            if (n == 3 || n == 5 || n == 7) {
                stores("a commit of " + n + " bytes", Checks.busy(), COMMIT, part);
            } else {
                refuses("a commit of " + n + " bytes", Checks.busy(), COMMIT, part);
            }
        }
        stores("a last byte 0", Checks.busy(), COMMIT, Checks.commit(tree, 0));
        stores("a last byte 255", Checks.busy(), COMMIT, Checks.commit(tree, 255));
    }

    /** "A blob's always is." */
    private static void blobsAlwaysWellFormed() {
        stores("the bytes of a tree that is not", Checks.busy(), BLOB, treeOf(9, 3, 3));
        stores("the bytes of a commit of nothing", Checks.busy(), BLOB, Checks.commit(65535, 0));
        stores("four bytes", Checks.busy(), BLOB, 0, 0, 0, 0);
    }

    /** "it names something that the server does not hold" */
    private static void namesWhatIsNotHeld() {
        int blob = Checks.id(BLOB, 1, 2, 3);
        int tree = Checks.id(TREE, Checks.part(5, blob));
        int first = Checks.id(COMMIT, Checks.commit(tree, 1));
        int client = Checks.id(BLOB, 65, 66, 67);
        int[] unknown = {blob + 1, blob - 1, client, 0, 65520, 65521, 65535};
        for (int id : unknown) {
            for (int i = 0; i < 8; i++) {
                int[] parts = treeOf(blob, 0, 1, 2, 3, 4, 5, 6, 7);
                parts[3 * i + 1] = id >> 8;
                parts[3 * i + 2] = id & 255;
                refuses("part " + i + " is " + id, Checks.busy(), TREE, parts);
            }
            refuses("the tree is " + id, Checks.busy(), COMMIT, Checks.commit(id, 9));
            refuses("the parent is " + id, Checks.busy(), COMMIT, Checks.commit(tree, 9, id));
            refuses("the first parent is " + id, Checks.busy(), COMMIT, Checks.commit(tree, 9, id, first));
            refuses("the second parent is " + id, Checks.busy(), COMMIT, Checks.commit(tree, 9, first, id));
        }
        refuses("a tree on an empty server", new Run(), TREE, Checks.part(0, 0));
        refuses("a commit on an empty server", new Run(), COMMIT, 0, 0, 0);
    }

    /** "the parts of a tree trees or blobs"; "(or another kind of object there)" */
    private static void treeNamesTreesAndBlobs() {
        int blob = Checks.id(BLOB, 1, 2, 3);
        int tree = Checks.id(TREE, Checks.part(5, blob));
        int first = Checks.id(COMMIT, Checks.commit(tree, 1));
        stores("a blob", Checks.busy(), TREE, Checks.part(0, blob));
        stores("a tree", Checks.busy(), TREE, Checks.part(0, tree));
        stores("both", Checks.busy(), TREE, Checks.join(Checks.part(0, tree), Checks.part(1, blob)));
        refuses("a commit", Checks.busy(), TREE, Checks.part(0, first));
        refuses("a commit behind a blob", Checks.busy(), TREE,
            Checks.join(Checks.part(0, blob), Checks.part(1, first)));
        refuses("a commit before a blob", Checks.busy(), TREE,
            Checks.join(Checks.part(0, first), Checks.part(1, blob)));
    }

    /** "the first one of a commit a tree" */
    private static void commitNamesATree() {
        int blob = Checks.id(BLOB, 1, 2, 3);
        int tree = Checks.id(TREE, Checks.part(5, blob));
        int first = Checks.id(COMMIT, Checks.commit(tree, 1));
        stores("a tree", Checks.busy(), COMMIT, Checks.commit(tree, 77));
        refuses("a blob", Checks.busy(), COMMIT, Checks.commit(blob, 77));
        refuses("a commit", Checks.busy(), COMMIT, Checks.commit(first, 77));
        refuses("a blob, with a parent", Checks.busy(), COMMIT, Checks.commit(blob, 77, first));
    }

    /** "its parents commits" */
    private static void parentsAreCommits() {
        int blob = Checks.id(BLOB, 1, 2, 3);
        int tree = Checks.id(TREE, Checks.part(5, blob));
        int first = Checks.id(COMMIT, Checks.commit(tree, 1));
        int second = Checks.id(COMMIT, Checks.commit(tree, 2, first));
        stores("one parent", Checks.busy(), COMMIT, Checks.commit(tree, 77, second));
        stores("two parents", Checks.busy(), COMMIT, Checks.commit(tree, 77, second, first));
        stores("one parent twice", Checks.busy(), COMMIT, Checks.commit(tree, 77, first, first));
        int[] wrong = {tree, blob};
        for (int id : wrong) {
            refuses("one that is no commit", Checks.busy(), COMMIT, Checks.commit(tree, 77, id));
            refuses("the first is no commit", Checks.busy(), COMMIT, Checks.commit(tree, 77, id, first));
            refuses("the second is no commit", Checks.busy(), COMMIT, Checks.commit(tree, 77, first, id));
        }
    }

    /** "the server holds another object of that ID" */
    private static void anotherOfThatId() {
        int blob = Checks.id(BLOB, 1, 2, 3);
        int tree = Checks.id(TREE, Checks.part(5, blob));
        int first = Checks.id(COMMIT, Checks.commit(tree, 1));
        refuses("a blob of a blob's ID", Checks.busy(), BLOB, twin(blob));
        refuses("a longer blob of a blob's ID", Checks.busy(), BLOB, Checks.withId(BLOB, MOST, blob));
        refuses("a blob of a tree's ID", Checks.busy(), BLOB, Checks.withId(BLOB, 3, tree));
        refuses("a blob of a commit's ID", Checks.busy(), BLOB, Checks.withId(BLOB, 3, first));
        Run x = new Run();
        Checks.store(x, BLOB, 1, 2, 3);
        Checks.store(x, BLOB, Checks.withId(BLOB, 4, tree));
        refuses("a tree of a blob's ID", x, TREE, Checks.part(5, blob));
        Run y = new Run();
        Checks.store(y, BLOB, 1, 2, 3);
        Checks.store(y, TREE, Checks.part(5, blob));
        Checks.store(y, BLOB, Checks.withId(BLOB, 4, first));
        refuses("a commit of a blob's ID", y, COMMIT, Checks.commit(tree, 1));
        int[] shorter = {7};
        int[] longer = Checks.longerTwin(shorter);
        Run z = Checks.busy();
        Checks.store(z, BLOB, shorter);
        refuses("one that only goes on behind it", z, BLOB, longer);
        Run w = Checks.busy();
        Checks.store(w, BLOB, longer);
        refuses("one that only ends before it", w, BLOB, shorter);
        int[] other = Checks.withId(BLOB, 4, Checks.id(BLOB, 65, 66, 67));
        stores("a blob of an ID of the client", Checks.busy(), BLOB, other);
    }

    /** Another content of three bytes of a blob's ID. */
    private static int[] twin(int id) {
        for (int first = 0; first < 256; first++) {
            for (int i = 0; i < 65536; i++) {
                int[] content = {first, i >> 8, i & 255};
                boolean same = Arrays.equals(content, new int[] {1, 2, 3});
                if (!same && Checks.hash(BLOB, 3, content[0], content[1], content[2]) == id) {
                    return content;
                }
            }
        }
        throw new IllegalStateException("no twin");
    }

    /** "or it would hold more than 16"; "the server at most 16" */
    private static void atMostSixteen() {
        Run x = withBlobs(15);
        stores("the 16th", x, BLOB, 15);
        refuses("a 17th blob", x, BLOB, 16);
        refuses("a 17th, empty", x, BLOB);
        refuses("a 17th, a tree", x, TREE, Checks.part(1, Checks.id(BLOB, 3)));
        for (int i = 0; i < 16; i++) {
            Checks.due("one of the 16", Checks.store(x, BLOB, i), Checks.id(BLOB, i));
            Checks.due("the buffer is empty then", x.size(), 0);
        }
        Checks.due("still 16", x.count(0), 16);
        Run y = withBlobs(14);
        int tree = Checks.store(y, TREE);
        stores("a commit as the 16th", y, COMMIT, Checks.commit(tree, 1));
        refuses("a commit as the 17th", y, COMMIT, Checks.commit(tree, 2));
        Checks.due("the client has room", Checks.receive(y, Checks.pack(Checks.whole(BLOB, 99))), 1);
    }
}
