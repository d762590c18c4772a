/** Promise 7 and, for the server, 15 to 19: what is stored, what is refused, and what is there then. */
public final class StoreTest {
    private static final int[] WRONG_SIDES = {-1, 2, Integer.MIN_VALUE, Integer.MAX_VALUE};

    public static void main(String[] args) {
        storing();
        wrongKindsAndSizes();
        trees();
        treeNames();
        commits();
        sameAndClashing();
        full();
        asking();
        closures();
        Checks.end();
    }

    private static void refused(String what, Run x, int kind, int... content) {
        int before = x.count(0);
        Checks.due(what, Checks.store(x, kind, content), -1);
        Checks.due(what + ": the buffer", Checks.buffer(x), content);
        Checks.due(what + ": count", x.count(0), before);
    }

    private static void storing() {
        Run x = new Run();
        Checks.due("the empty blob", x.store(3), 4467);
        Checks.due("the empty tree", x.store(2), Checks.id(Checks.TREE));
        int id = Checks.store(x, Checks.BLOB, 0, 255, 128);
        Checks.due("a blob's ID", id, Checks.id(Checks.BLOB, 0, 255, 128));
        Checks.due("size afterwards", x.size(), 0);
        Checks.due("count", x.count(0), 3);
        Checks.due("the client holds none", x.count(1), 0);
        Checks.due("content", Checks.content(x, 0, id), 0, 255, 128);
    }

    private static void wrongKindsAndSizes() {
        Run x = new Run();
        int[] kinds = {0, 4, -1, 6, 7, Integer.MIN_VALUE, Integer.MAX_VALUE};
        for (int kind : kinds) {
            refused("store of kind " + kind, x, kind, 1);
        }
        refused("25 bytes", x, Checks.BLOB, Checks.times(25, 1));
        refused("500 bytes", x, Checks.BLOB, Checks.times(500, 1));
        int[] most = Checks.times(24, 1);
        Checks.due("24 bytes", Checks.store(x, Checks.BLOB, most), Checks.id(Checks.BLOB, most));
    }

    private static void trees() {
        Run x = new Run();
        int blob = Checks.store(x, Checks.BLOB);
        for (int n = 1; n < 24; n++) {
            if (n % 3 != 0) {
                refused("a tree of " + n + " bytes", x, Checks.TREE, new int[n]);
            }
        }
        int[] content = new int[0];
        for (int i = 0; i < 8; i++) {
            content = Checks.join(content, Checks.part(i == 7 ? 255 : i, blob));
        }
        Checks.due("eight parts", Checks.store(x, Checks.TREE, content), Checks.id(Checks.TREE, content));
        int[] one = Checks.part(0, blob);
        refused("a name twice", x, Checks.TREE, Checks.join(one, one));
        int[] falling = Checks.join(Checks.part(3, blob), Checks.part(9, blob), Checks.part(8, blob));
        refused("names falling at last", x, Checks.TREE, falling);
        refused("names falling at first", x, Checks.TREE,
            Checks.join(Checks.part(3, blob), Checks.part(2, blob), Checks.part(8, blob)));
        int[] high = Checks.join(Checks.part(127, blob), Checks.part(128, blob));
        Checks.due("names about 128", Checks.store(x, Checks.TREE, high), Checks.id(Checks.TREE, high));
    }

    private static void treeNames() {
        Run x = new Run();
        int blob = Checks.store(x, Checks.BLOB, 1);
        int tree = Checks.store(x, Checks.TREE);
        int commit = Checks.store(x, Checks.COMMIT, Checks.commit(tree, 0));
        int[] both = Checks.join(Checks.part(1, blob), Checks.part(2, tree));
        Checks.due("a tree and a blob", Checks.store(x, Checks.TREE, both), Checks.id(Checks.TREE, both));
        refused("a commit in a tree", x, Checks.TREE, Checks.part(1, commit));
        refused("nothing held", x, Checks.TREE, Checks.part(1, blob + 1));
        refused("the second not held", x, Checks.TREE,
            Checks.join(Checks.part(1, blob), Checks.part(2, blob + 1)));
        refused("no ID at all", x, Checks.TREE, Checks.part(1, 65535));
    }

    private static void commits() {
        Run x = new Run();
        int blob = Checks.store(x, Checks.BLOB, 1);
        int tree = Checks.store(x, Checks.TREE);
        int[] lengths = {0, 1, 2, 4, 6, 8, 9, 24};
        for (int n : lengths) {
            refused("a commit of " + n + " bytes", x, Checks.COMMIT,
                java.util.Arrays.copyOf(Checks.two(tree), n));
        }
        int[] root = Checks.commit(tree, 200);
        int first = Checks.store(x, Checks.COMMIT, root);
        Checks.due("no parent", first, Checks.id(Checks.COMMIT, root));
        int[] next = Checks.commit(tree, 0, first);
        int second = Checks.store(x, Checks.COMMIT, next);
        Checks.due("one parent", second, Checks.id(Checks.COMMIT, next));
        int[] merge = Checks.commit(tree, 0, first, second);
        Checks.due("two parents", Checks.store(x, Checks.COMMIT, merge), Checks.id(Checks.COMMIT, merge));
        int[] twice = Checks.commit(tree, 0, first, first);
        Checks.due("one parent twice", Checks.store(x, Checks.COMMIT, twice), Checks.id(Checks.COMMIT, twice));
        refused("a blob for a tree", x, Checks.COMMIT, Checks.commit(blob, 0));
        refused("a commit for a tree", x, Checks.COMMIT, Checks.commit(first, 0));
        refused("a tree not held", x, Checks.COMMIT, Checks.commit(tree + 1, 0));
        refused("a tree for a parent", x, Checks.COMMIT, Checks.commit(tree, 0, tree));
        refused("a blob for a parent", x, Checks.COMMIT, Checks.commit(tree, 0, blob));
        refused("a tree for the second parent", x, Checks.COMMIT, Checks.commit(tree, 0, first, tree));
        refused("a second parent not held", x, Checks.COMMIT, Checks.commit(tree, 0, first, first + 1));
    }

    private static void sameAndClashing() {
        Run x = new Run();
        int id = Checks.store(x, Checks.BLOB, 0, 2, 14);
        Checks.due("the same again", Checks.store(x, Checks.BLOB, 0, 2, 14), id);
        Checks.due("size after the same", x.size(), 0);
        Checks.due("count after the same", x.count(0), 1);
        Checks.due("two contents of one ID", Checks.id(Checks.BLOB, 1, 0, 0), id);
        refused("another of that ID", x, Checks.BLOB, 1, 0, 0);
        refused("a longer one of that ID", x, Checks.BLOB, Checks.withId(Checks.BLOB, 5, id));
        int tree = Checks.store(x, Checks.TREE);
        int[] twin = Checks.withId(Checks.BLOB, 3, tree);
        refused("a blob of a tree's ID", x, Checks.BLOB, twin);
        Checks.due("the first stays", Checks.content(x, 0, id), 0, 2, 14);
    }

    private static void full() {
        Run x = new Run();
        for (int i = 0; i < 16; i++) {
            Checks.due("blob " + i, Checks.store(x, Checks.BLOB, i), Checks.id(Checks.BLOB, i));
        }
        refused("a 17th", x, Checks.BLOB, 16);
        Checks.due("one that is held", Checks.store(x, Checks.BLOB, 15), Checks.id(Checks.BLOB, 15));
        Checks.due("size afterwards", x.size(), 0);
        Checks.due("count", x.count(0), 16);
    }

    private static void asking() {
        Run x = new Run();
        int blob = Checks.store(x, Checks.BLOB, 9, 8);
        int tree = Checks.store(x, Checks.TREE, Checks.part(5, blob));
        int commit = Checks.store(x, Checks.COMMIT, Checks.commit(tree, 0));
        Checks.due("kind of a blob", x.kind(0, blob), 3);
        Checks.due("kind of a tree", x.kind(0, tree), 2);
        Checks.due("kind of a commit", x.kind(0, commit), 1);
        Checks.due("kind on the client", x.kind(1, blob), 0);
        Checks.due("kind of none", x.kind(0, -1), 0);
        Checks.due("length of a blob", x.length(0, blob), 2);
        Checks.due("length on the client", x.length(1, blob), -1);
        Checks.due("length of none", x.length(0, 65536 + blob), -1);
        Checks.due("content(0)", x.content(0, blob, 0), 9);
        Checks.due("content(1)", x.content(0, blob, 1), 8);
        Checks.due("content(2)", x.content(0, blob, 2), -1);
        Checks.due("content(-1)", x.content(0, blob, -1), -1);
        Checks.due("content(MAX)", x.content(0, blob, Integer.MAX_VALUE), -1);
        Checks.due("content(MIN)", x.content(0, blob, Integer.MIN_VALUE), -1);
        Checks.due("content on the client", x.content(1, blob, 0), -1);
        Checks.due("content of none", x.content(0, blob + 1, 0), -1);
        for (int side : WRONG_SIDES) {
            Checks.due("kind on side " + side, x.kind(side, blob), 0);
            Checks.due("length on side " + side, x.length(side, blob), -1);
            Checks.due("content on side " + side, x.content(side, blob, 0), -1);
            Checks.due("closure on side " + side, x.closure(side, blob), -1);
            Checks.due("count on side " + side, x.count(side), -1);
        }
    }

    private static void closures() {
        Run x = new Run();
        int blob = Checks.store(x, Checks.BLOB, 9);
        int inner = Checks.store(x, Checks.TREE, Checks.part(5, blob));
        int outer = Checks.store(x, Checks.TREE, Checks.join(Checks.part(1, blob), Checks.part(2, inner)));
        int first = Checks.store(x, Checks.COMMIT, Checks.commit(inner, 0));
        int left = Checks.store(x, Checks.COMMIT, Checks.commit(outer, 1, first));
        int right = Checks.store(x, Checks.COMMIT, Checks.commit(inner, 2, first));
        int merge = Checks.store(x, Checks.COMMIT, Checks.commit(outer, 3, left, right));
        Checks.due("closure of a blob", x.closure(0, blob), 1);
        Checks.due("closure of a tree", x.closure(0, inner), 2);
        Checks.due("closure of a tree of trees", x.closure(0, outer), 3);
        Checks.due("closure of a first commit", x.closure(0, first), 3);
        Checks.due("closure of a second commit", x.closure(0, right), 4);
        Checks.due("closure of a merge", x.closure(0, merge), 7);
        Checks.due("closure on the client", x.closure(1, blob), -1);
        Checks.due("closure of none", x.closure(0, merge + 1), -1);
    }
}
