import java.util.Arrays;

/** Promises 13 and 14, and 15 to 19 on the client: reading packs, and what is kept. */
public final class ReceiveTest {
    private static final int[] ABC = {65, 66, 67};

    public static void main(String[] args) {
        keeping();
        beginnings();
        heads();
        backs();
        runs();
        ends();
        everyPlaceMissing();
        differences();
        faultyDifferences();
        bigDifferences();
        rounds();
        basesById();
        baseChanges();
        wellFormed();
        clashes();
        orderOfFaults();
        tooMany();
        forgetting();
        clientClosures();
        circles();
        Checks.end();
    }

    private static void faulty(String what, int place, int... bytes) {
        Run x = Checks.withClient(ABC);
        Checks.due(what, Checks.receive(x, bytes), -1 - place);
        Checks.due(what + ": the buffer", Checks.buffer(x), bytes);
        Checks.due(what + ": count", x.count(1), 1);
    }

    /** A pack with these entries, wrong or not, in a client that holds ABC. */
    private static void answer(String what, int due, int[]... entries) {
        Run x = Checks.withClient(ABC);
        int[] pack = Checks.pack(entries);
        Checks.due(what, Checks.receive(x, pack), due);
        Checks.due(what + ": the buffer", Checks.buffer(x), pack);
        Checks.due(what + ": count", x.count(1), due < 0 ? 1 : 1 + due);
    }

    private static void keeping() {
        Run x = new Run();
        int blob = Checks.id(Checks.BLOB, 7);
        int[] tree = Checks.part(1, blob);
        int treeId = Checks.id(Checks.TREE, tree);
        int[] commit = Checks.commit(treeId, 3);
        int[] pack = Checks.pack(Checks.whole(Checks.BLOB, 7), Checks.whole(Checks.BLOB),
            Checks.whole(Checks.BLOB, 7), Checks.whole(Checks.TREE, tree), Checks.whole(Checks.COMMIT, commit));
        Checks.due("one of them twice", Checks.receive(x, pack), 4);
        Checks.due("the buffer stays", Checks.buffer(x), pack);
        Checks.due("count", x.count(1), 4);
        Checks.due("the server gets none", x.count(0), 0);
        Checks.due("kind", x.kind(1, treeId), 2);
        Checks.due("kind of a commit", x.kind(1, Checks.id(Checks.COMMIT, commit)), 1);
        Checks.due("length of an empty one", x.length(1, 4467), 0);
        Checks.due("content of an empty one", x.content(1, 4467, 0), -1);
        Checks.due("content", Checks.content(x, 1, treeId), tree);
        Checks.due("again", x.receive(), 0);
        Checks.due("count", x.count(1), 4);
        Checks.due("one of two is new",
            Checks.receive(x, Checks.pack(Checks.whole(Checks.BLOB, 8), Checks.whole(Checks.BLOB, 7))), 1);
    }

    private static void beginnings() {
        faulty("no byte", 0);
        faulty("another first byte", 0, 81, 1, 1);
        faulty("another second byte", 1, 80, 0, 1);
        faulty("a second byte 2", 1, 80, 2, 1);
        faulty("no second byte", 1, 80);
        faulty("no number", 2, 80, 1);
        faulty("no entries", 2, Checks.sealed(80, 1, 0));
        faulty("17 entries", 2, 80, 1, 17, 48);
        faulty("255 entries", 2, 80, 1, 255, 48);
        int[][] sixteen = new int[16][];
        Arrays.fill(sixteen, Checks.whole(Checks.BLOB));
        answer("16 entries", 1, sixteen);
    }

    private static void heads() {
        int[] wrong = {0, 4, 5, 8, 12, 13};
        for (int sort : wrong) {
            faulty("a head's sort " + sort, 3, 80, 1, 1, 16 * sort, 0, 0, 0);
            faulty("a head's sort " + sort + " in the second entry", 4, 80, 1, 2, 48, 16 * sort + 3, 1);
        }
        faulty("no head", 3, 80, 1, 1);
        faulty("no second head", 4, 80, 1, 2, 48);
        faulty("no second byte of a head", 4, 80, 1, 1, 176);
        faulty("a second byte 0", 4, 80, 1, 1, 177, 0, 0, 5);
        faulty("a second byte 16", 4, 80, 1, 1, 224, 16, 0, 5);
        faulty("a second byte 255", 4, 80, 1, 1, 240, 255, 0, 5);
        faulty("25 bytes", 4, 80, 1, 1, 185, 1, 150, 5);
        faulty("25 bytes of a tree", 4, 80, 1, 1, 169, 1, 150, 5);
        faulty("25 bytes of a commit", 4, 80, 1, 1, 153, 1, 150, 5);
        faulty("32 bytes", 4, 80, 1, 1, 176, 2, 157, 5);
        answer("24 bytes", 1, Checks.row(184, 1, 149, 5));
        answer("16 bytes", 1, Checks.row(176, 1, 141, 5));
        answer("15 bytes", 1, Checks.row(63, 140, 5));
        int[] puts = {3, 24, 5, 1, 1, 1, 1, 1, 5, 1, 1, 1, 1, 1, 5, 1, 1, 1, 1, 1, 5, 1, 1, 1, 1, 1, 4, 1, 1, 1, 1};
        answer("a head of 255", 1, Checks.byId(Checks.id(Checks.BLOB, ABC), puts));
        int[] base = Checks.withId(Checks.BLOB, 3, 0x12FF);
        answer("an ID's byte of 255", 2, Checks.whole(Checks.BLOB, base), Checks.byId(0x12FF, 3, 1, 129, 0));
        base = Checks.withId(Checks.BLOB, 3, 0xFF00);
        answer("an ID's first byte of 255", 2, Checks.whole(Checks.BLOB, base), Checks.byId(0xFF00, 3, 1, 129, 0));
    }

    private static void backs() {
        int[] first = Checks.whole(Checks.BLOB, 1, 2, 3);
        int[] same = {3, 3, 131, 0};
        answer("back to the first", 1, first, Checks.byBack(5, same));
        int[] bytes = Checks.pack(first, Checks.byBack(5, same), Checks.byBack(8, same));
        answer("back to the second", 1, first, Checks.byBack(5, same), Checks.byBack(8, same));
        answer("back over the second", 1, first, Checks.byBack(5, same), Checks.byBack(13, same));
        int[] wrong = {0, 1, 4, 6, 8, 9, 256, 261, 65535};
        for (int back : wrong) {
            faulty("a back of " + back, 10, Checks.pack(first, Checks.byBack(back, same)));
        }
        faulty("a back of the first entry", 5, Checks.pack(Checks.byBack(0, same), first));
        faulty("a back to a later entry", 5, Checks.pack(Checks.byBack(65528, same), first));
        faulty("no back", 9, Arrays.copyOf(bytes, 9));
        faulty("half a back", 10, Arrays.copyOf(bytes, 10));
        bytes = Checks.pack(Checks.byId(9, same));
        faulty("no ID", 4, Arrays.copyOf(bytes, 4));
        faulty("half an ID", 5, Arrays.copyOf(bytes, 5));
    }

    private static void runs() {
        faulty("a plain run too long", 4, 80, 1, 1, 50, 2, 1, 2, 3);
        faulty("a run too long", 4, 80, 1, 1, 50, 128, 1);
        faulty("a second run too long", 6, 80, 1, 1, 50, 0, 1, 1, 2, 3);
        faulty("a second run of three", 6, 80, 1, 1, 51, 0, 1, 128, 2);
        faulty("no run", 4, 80, 1, 1, 50);
        faulty("a run without its byte", 5, 80, 1, 1, 51, 128);
        faulty("a plain run cut short", 6, 80, 1, 1, 51, 2, 9);
        faulty("no second run", 6, 80, 1, 1, 51, 0, 9);
        faulty("a run of 130 in 129", 7, 80, 1, 1, 241, 8, 0, 0, 255, 9);
        int abc = Checks.id(Checks.BLOB, ABC);
        answer("a plain run of 128", -1000, Checks.byId(abc, Checks.times(128, 1)));
        answer("a run of 130", -1000, Checks.join(Checks.head(7, 130), Checks.two(abc), Checks.row(255, 1)));
        faulty("a plain run of 128 in 127", 7, Checks.pack(
            Checks.join(Checks.head(7, 127), Checks.two(abc), Checks.row(127), Checks.times(128, 1))));
        answer("runs written otherwise", 1, Checks.row(54, 0, 7, 0, 7, 1, 7, 7, 0, 7, 0, 7));
        answer("a run in two", 1, Checks.row(54, 128, 7, 128, 7));
        Run x = new Run();
        Checks.due("runs one behind the other",
            Checks.receive(x, Checks.pack(Checks.row(54, 0, 1, 128, 2, 1, 3, 4))), 1);
        int[] content = {1, 2, 2, 2, 3, 4};
        Checks.due("what came of them", Checks.content(x, 1, Checks.id(Checks.BLOB, content)), content);
    }

    private static void ends() {
        int[] pack = Checks.pack(Checks.whole(Checks.BLOB, 1, 2));
        int n = pack.length;
        for (int change = 1; change < 256; change++) {
            int[] high = pack.clone();
            high[n - 2] = (high[n - 2] + change) % 256;
            faulty("the hash's first byte", n - 2, high);
            int[] low = pack.clone();
            low[n - 1] = (low[n - 1] + change) % 256;
            faulty("the hash's second byte", n - 1, low);
        }
        faulty("a byte behind", n, Checks.join(pack, Checks.row(0)));
        faulty("a pack behind", n, Checks.join(pack, pack));
        faulty("an entry more than said", 4, Checks.join(Checks.row(80, 1, 1, 48), Checks.row(48, 48)));
    }

    private static void everyPlaceMissing() {
        int[] pack = Checks.pack(Checks.whole(Checks.BLOB, 1, 2, 3), Checks.byBack(5, 3, 3, 131, 0),
            Checks.byId(Checks.id(Checks.BLOB, ABC), 3, 3, 131, 0), Checks.row(176, 1, 141, 9));
        for (int n = 0; n < pack.length; n++) {
            faulty("cut to " + n, n, Arrays.copyOf(pack, n));
        }
        Run x = Checks.withClient(ABC);
        Checks.due("not cut", Checks.receive(x, pack), 2);
    }

    private static void works(String what, int[] base, int[] content, int... difference) {
        Run x = new Run();
        int[] first = Checks.whole(Checks.BLOB, base);
        int due = Arrays.equals(base, content) ? 1 : 2;
        Checks.due(what, Checks.receive(x, Checks.pack(first, Checks.byBack(first.length, difference))), due);
        int id = Checks.id(Checks.BLOB, content);
        Checks.due(what + ": kind", x.kind(1, id), 3);
        Checks.due(what + ": content", Checks.content(x, 1, id), content);
    }

    private static void differences() {
        int[] five = {1, 2, 3, 4, 5};
        works("nothing", five, Checks.row(), 5, 0);
        works("from nothing", Checks.row(), Checks.row(9, 8), 0, 2, 2, 9, 8);
        works("nothing from nothing", Checks.row(), Checks.row(), 0, 0);
        works("all", five, five, 5, 5, 133, 0);
        works("the last byte", five, Checks.row(5), 5, 1, 129, 4);
        works("the first byte twice", five, Checks.row(1, 1), 5, 2, 129, 0, 129, 0);
        works("puts and copies", five, Checks.row(7, 3, 4, 8, 9, 1), 5, 6, 1, 7, 130, 2, 2, 8, 9, 129, 0);
        works("two puts", five, Checks.row(7, 8), 5, 2, 1, 7, 1, 8);
        works("24 bytes", five, Checks.times(24, 1), Checks.join(Checks.row(5, 24, 24), Checks.times(24, 1)));
        int[] steps = new int[50];
        steps[0] = 5;
        steps[1] = 24;
        for (int i = 2; i < 50; i += 2) {
            steps[i] = 129;
            steps[i + 1] = 1;
        }
        works("24 copies", five, Checks.times(24, 2), steps);
        Run x = new Run();
        int[] tree = Checks.join(Checks.part(1, 7), Checks.part(2, 8));
        int[] first = Checks.whole(Checks.TREE, tree);
        Checks.due("of a tree",
            Checks.receive(x, Checks.pack(first, Checks.byBack(first.length, 6, 3, 131, 3))), 2);
        Checks.due("has its kind", x.kind(1, Checks.id(Checks.TREE, Checks.part(2, 8))), 2);
    }

    private static void faultyDifferences() {
        int[] first = Checks.whole(Checks.BLOB, 1, 2, 3, 4, 5);
        int[][] wrong = {
            {}, {5}, {4, 1, 1, 9}, {6, 1, 1, 9}, {5, 1}, {5, 2, 1, 9}, {5, 0, 1, 9}, {5, 1, 2, 9}, {5, 3, 3, 9, 9},
            {5, 5, 133}, {5, 5, 0, 133, 0}, {5, 5, 133, 0, 0}, {5, 5, 128, 0, 133, 0}, {5, 5, 128, 133, 0},
            {5, 0, 128}, {5, 0, 0}, {5, 0, 128, 0}, {5, 5, 133, 1}, {5, 1, 129, 5}, {5, 6, 134, 0},
            {5, 3, 131, 3}, {5, 1, 129, 255}, {5, 2, 129, 0, 130, 0}, {5, 4, 131, 0}, {5, 127, 255, 0},
        };
        for (int[] difference : wrong) {
            answer("the difference " + Arrays.toString(difference), -1000,
                first, Checks.byBack(first.length, difference));
        }
        answer("from an empty base", -1000, Checks.whole(Checks.BLOB), Checks.byBack(1, 0, 1, 129, 0));
        answer("a base that nobody holds", -1000, Checks.byId(9, 0, 0));
        answer("whole ones beside it", -1000, first, Checks.byId(9, 0, 0), Checks.whole(Checks.BLOB, 4));
    }

    private static void bigDifferences() {
        int[] first = Checks.whole(Checks.BLOB, 1, 2, 3, 4, 5);
        answer("25 bytes put", -1000, first,
            Checks.byBack(first.length, Checks.join(Checks.row(5, 25, 25), Checks.times(25, 9))));
        answer("25 bytes put, 24 said", -1000, first,
            Checks.byBack(first.length, Checks.join(Checks.row(5, 24, 25), Checks.times(25, 9))));
        answer("25 bytes copied", -1000, first,
            Checks.byBack(first.length, 5, 25, 133, 0, 133, 0, 133, 0, 133, 0, 133, 0));
        answer("255 bytes", -1000, first, Checks.join(Checks.head(6, 255), Checks.two(first.length),
            Checks.row(255, 129, 250, 129)));
        answer("a put of 127", -1000, first,
            Checks.byBack(first.length, Checks.join(Checks.row(5, 127, 127), Checks.times(120, 9))));
    }

    private static void rounds() {
        int a = Checks.id(Checks.BLOB, 1, 2, 3);
        int b = Checks.id(Checks.BLOB, 1, 2, 3, 4);
        int c = Checks.id(Checks.BLOB, 1, 2, 3, 4, 5);
        int[] toB = Checks.byId(a, 3, 4, 131, 0, 1, 4);
        int[] toC = Checks.byId(b, 4, 5, 132, 0, 1, 5);
        int[] toD = Checks.byId(c, 5, 6, 133, 0, 1, 6);
        answer("from first to last", 4, Checks.whole(Checks.BLOB, 1, 2, 3), toB, toC, toD);
        answer("from last to first", 4, toD, toC, toB, Checks.whole(Checks.BLOB, 1, 2, 3));
        answer("mixed", 4, toC, Checks.whole(Checks.BLOB, 1, 2, 3), toD, toB);
        answer("back to one that waits itself", 3, Checks.byId(a, 3, 1, 129, 0),
            Checks.byBack(8, 1, 2, 129, 0, 129, 0), Checks.whole(Checks.BLOB, 1, 2, 3));
        answer("the first one missing", -1000, toD, toC, toB);
        answer("back to one that never comes", -1000, toB, Checks.byBack(toB.length, 4, 0));
        Run x = new Run();
        Checks.receive(x, Checks.pack(toD, toC, toB, Checks.whole(Checks.BLOB, 1, 2, 3)));
        Checks.due("the last one", Checks.content(x, 1, Checks.id(Checks.BLOB, 1, 2, 3, 4, 5, 6)), 1, 2, 3, 4, 5, 6);
        chain();
    }

    /** 16 entries, each from the one behind it, so that each round brings only one. */
    private static void chain() {
        int[][] entries = new int[16][];
        int[] content = {};
        entries[15] = Checks.whole(Checks.BLOB);
        for (int i = 14; i >= 0; i--) {
            int n = content.length;
            int base = Checks.id(Checks.BLOB, content);
            int[] difference = n == 0 ? Checks.row(0, 1, 1, 30) : Checks.row(n, n + 1, 128 + n, 0, 1, 30 + n);
            entries[i] = Checks.byId(base, difference);
            content = Checks.join(content, Checks.row(30 + n));
        }
        Run x = new Run();
        Checks.due("a chain of 16", Checks.receive(x, Checks.pack(entries)), 16);
        Checks.due("its end", Checks.content(x, 1, Checks.id(Checks.BLOB, content)), content);
    }

    private static void basesById() {
        Run x = Checks.withClient(ABC);
        int base = Checks.id(Checks.BLOB, ABC);
        int[] pack = Checks.pack(Checks.byId(base, 3, 4, 131, 0, 1, 68));
        Checks.due("from the client's", Checks.receive(x, pack), 1);
        Checks.due("what came", Checks.content(x, 1, Checks.id(Checks.BLOB, 65, 66, 67, 68)), 65, 66, 67, 68);
        x.forget();
        Checks.due("that is gone", Checks.receive(x, pack), -1000);
        Run y = new Run();
        Checks.store(y, Checks.BLOB, ABC);
        Checks.due("the server's does not count", Checks.receive(y, pack), -1000);
        // Two contents of one ID: the pack's comes before the client's, and then they clash.
        Run z = Checks.withClient(Checks.row(0, 2, 14));
        int twin = Checks.id(Checks.BLOB, 1, 0, 0);
        Checks.due("by the client's twin",
            Checks.receive(z, Checks.pack(Checks.byId(twin, 3, 1, 129, 2))), 1);
        Checks.due("what came of it", z.kind(1, Checks.id(Checks.BLOB, 14)), 3);
        Checks.due("by the pack's twin",
            Checks.receive(z, Checks.pack(Checks.whole(Checks.BLOB, 1, 0, 0), Checks.byId(twin, 3, 1, 129, 2))), -1001);
    }

    /** A base that does not fit is looked for again in each round. */
    private static void baseChanges() {
        // A tree and a blob of another length that share their ID, so that a difference fits only one of them.
        int[] blob = {9};
        int id = Checks.id(Checks.BLOB, blob);
        int[] tree = treeWithId(id);
        Run x = Checks.withClient(blob);
        int[] fits = Checks.byId(id, 6, 0);
        Checks.due("only the client's, which does not fit", Checks.receive(x, Checks.pack(fits)), -1000);
        Checks.due("the pack's fits, and clashes",
            Checks.receive(x, Checks.pack(fits, Checks.whole(Checks.TREE, tree))), -1001);
        int[] later = Checks.byId(Checks.id(Checks.TREE),
            0, 6, 6, tree[0], tree[1], tree[2], tree[3], tree[4], tree[5]);
        Checks.due("one that comes in a later round",
            Checks.receive(x, Checks.pack(fits, later, Checks.whole(Checks.TREE))), -1001);
        x.forget();
        Checks.due("the first of the pack does not fit", Checks.receive(x, Checks.pack(
            Checks.whole(Checks.BLOB, blob), fits, Checks.whole(Checks.TREE, tree))), -1000);
        Checks.due("the first of the pack fits", Checks.receive(x, Checks.pack(
            Checks.whole(Checks.TREE, tree), fits, Checks.whole(Checks.BLOB, blob))), -1001);
        Checks.due("the first of those worked out by then", Checks.receive(x, Checks.pack(
            later, Checks.whole(Checks.BLOB, blob), Checks.whole(Checks.TREE), fits)), -1001);
        Checks.due("alone", Checks.receive(x, Checks.pack(fits, Checks.whole(Checks.TREE, tree))), 2);
    }

    private static int[] treeWithId(int id) {
        for (int a = 0; a < 65536; a++) {
            for (int b = 0; b < 256; b++) {
                int[] tree = Checks.join(Checks.part(1, a), Checks.part(2, b));
                if (Checks.id(Checks.TREE, tree) == id) {
                    return tree;
                }
            }
        }
        throw new IllegalStateException("no tree has the ID " + id);
    }

    private static void wellFormed() {
        int[] lengths = {0, 1, 2, 4, 6, 8, 24};
        for (int n : lengths) {
            answer("a commit of " + n, -1001, Checks.whole(Checks.COMMIT, new int[n]));
        }
        answer("commits of 3, 5 and 7", 3, Checks.whole(Checks.COMMIT, new int[3]),
            Checks.whole(Checks.COMMIT, new int[5]), Checks.whole(Checks.COMMIT, new int[7]));
        for (int n = 1; n < 24; n++) {
            answer("a tree of " + n, n == 3 ? 1 : -1001, Checks.whole(Checks.TREE, new int[n]));
        }
        int[] falling = Checks.join(Checks.part(2, 1), Checks.part(1, 1));
        answer("falling names", -1001, Checks.whole(Checks.TREE, falling));
        answer("behind a good one", -1001, Checks.whole(Checks.BLOB, 1), Checks.whole(Checks.TREE, falling));
        answer("rising names", 1, Checks.whole(Checks.TREE, Checks.join(Checks.part(1, 1), Checks.part(255, 1))));
        int[] good = Checks.whole(Checks.TREE, Checks.part(1, 1));
        answer("by a difference", -1001, good, Checks.byBack(good.length, 3, 2, 130, 0));
    }

    private static void clashes() {
        Run x = Checks.withClient(Checks.row(0, 2, 14));
        int[] twin = Checks.whole(Checks.BLOB, 1, 0, 0);
        Checks.due("with the client's", Checks.receive(x, Checks.pack(Checks.whole(Checks.BLOB, 5), twin)), -1001);
        Checks.due("nothing is kept", x.count(1), 1);
        Checks.due("with the client's, of another length", Checks.receive(x, Checks.pack(
            Checks.whole(Checks.BLOB, Checks.withId(Checks.BLOB, 5, Checks.id(Checks.BLOB, 0, 2, 14))))), -1001);
        int[] tree = Checks.withId(Checks.TREE, 3, Checks.id(Checks.BLOB, 0, 2, 14));
        Checks.due("with the client's, of another kind",
            Checks.receive(x, Checks.pack(Checks.whole(Checks.TREE, tree))), -1001);
        answer("in the pack", -1001, twin, Checks.whole(Checks.BLOB, 5), Checks.whole(Checks.BLOB, 0, 2, 14));
        Run y = new Run();
        Checks.store(y, Checks.BLOB, 0, 2, 14);
        Checks.due("with the server's", Checks.receive(y, Checks.pack(twin)), 1);
        int id = Checks.id(Checks.BLOB, 1, 0, 0);
        Checks.due("the server's", Checks.content(y, 0, id), 0, 2, 14);
        Checks.due("the client's", Checks.content(y, 1, id), 1, 0, 0);
    }

    private static void orderOfFaults() {
        int[] bad = Checks.whole(Checks.COMMIT);
        int[] lost = Checks.byId(9, 0, 0);
        answer("not well formed, and no base", -1000, bad, lost);
        int[] pack = Checks.pack(bad, lost);
        pack[pack.length - 1] ^= 1;
        faulty("and a wrong hash", pack.length - 1, pack);
        Run x = fullBut(0);
        Checks.due("not well formed, and too many",
            Checks.receive(x, Checks.pack(Checks.whole(Checks.BLOB, 99), bad)), -1001);
        Checks.due("no base, and too many", Checks.receive(x, Checks.pack(Checks.whole(Checks.BLOB, 99), lost)), -1000);
    }

    /** A client that has room for so many more. */
    private static Run fullBut(int room) {
        Run x = new Run();
        for (int i = 0; i < 24 - room; i++) {
            Checks.due("filling", Checks.receive(x, Checks.pack(Checks.whole(Checks.BLOB, i))), 1);
        }
        return x;
    }

    private static void tooMany() {
        Run x = fullBut(1);
        int[] one = Checks.whole(Checks.BLOB, 100);
        int[] two = Checks.whole(Checks.BLOB, 101);
        int[] old = Checks.whole(Checks.BLOB, 0);
        Checks.due("two", Checks.receive(x, Checks.pack(one, two)), -1002);
        Checks.due("nothing is kept", x.count(1), 23);
        Checks.due("nor the first", x.kind(1, Checks.id(Checks.BLOB, 100)), 0);
        Checks.due("one twice, and one that is held", Checks.receive(x, Checks.pack(one, old, one)), 1);
        Checks.due("24", x.count(1), 24);
        Checks.due("a 25th", Checks.receive(x, Checks.pack(two)), -1002);
        Checks.due("those that are held", Checks.receive(x, Checks.pack(one, old, old)), 0);
        Checks.due("forget", x.forget(), 24);
        Checks.due("room again", Checks.receive(x, Checks.pack(two)), 1);
    }

    private static void forgetting() {
        Run x = Checks.withClient(ABC, Checks.row(1));
        int id = Checks.store(x, Checks.BLOB, 4);
        x.put(77, 1);
        Checks.due("forget", x.forget(), 2);
        Checks.due("count(1)", x.count(1), 0);
        Checks.due("kind", x.kind(1, Checks.id(Checks.BLOB, ABC)), 0);
        Checks.due("length", x.length(1, Checks.id(Checks.BLOB, ABC)), -1);
        Checks.due("the server's stay", x.kind(0, id), 3);
        Checks.due("the buffer stays", Checks.buffer(x), 77);
        Checks.due("forget again", x.forget(), 0);
    }

    private static void clientClosures() {
        Run x = new Run();
        int blob = Checks.id(Checks.BLOB, 5);
        int[] tree = Checks.part(1, blob);
        int treeId = Checks.id(Checks.TREE, tree);
        int[] first = Checks.commit(treeId, 1);
        int firstId = Checks.id(Checks.COMMIT, first);
        int[] second = Checks.commit(treeId, 2, firstId);
        int secondId = Checks.id(Checks.COMMIT, second);
        Checks.receive(x, Checks.pack(Checks.whole(Checks.COMMIT, second)));
        Checks.due("the commit alone", x.closure(1, secondId), -1);
        Checks.receive(x, Checks.pack(Checks.whole(Checks.TREE, tree), Checks.whole(Checks.COMMIT, first)));
        Checks.due("without the blob", x.closure(1, secondId), -1);
        Checks.due("the tree without the blob", x.closure(1, treeId), -1);
        Checks.receive(x, Checks.pack(Checks.whole(Checks.BLOB, 5)));
        Checks.due("all", x.closure(1, secondId), 4);
        Checks.due("the first commit", x.closure(1, firstId), 3);
        Checks.due("the blob", x.closure(1, blob), 1);
        Checks.due("on the server", x.closure(0, blob), -1);
        wrongKind("a commit in a tree", Checks.TREE, Checks.part(1, firstId));
        wrongKind("a blob for a tree", Checks.COMMIT, Checks.commit(blob, 0));
        wrongKind("a commit for a tree", Checks.COMMIT, Checks.commit(firstId, 0));
        wrongKind("a tree for a parent", Checks.COMMIT, Checks.commit(treeId, 0, treeId));
        wrongKind("a blob for the second parent", Checks.COMMIT, Checks.commit(treeId, 0, firstId, blob));
        wrongKind("an unknown second parent", Checks.COMMIT, Checks.commit(treeId, 0, firstId, 65535));
    }

    private static void wrongKind(String what, int kind, int... content) {
        Run x = new Run();
        int[] tree = Checks.part(1, Checks.id(Checks.BLOB, 5));
        int[] first = Checks.commit(Checks.id(Checks.TREE, tree), 1);
        Checks.due(what + ": receive", Checks.receive(x, Checks.pack(Checks.whole(kind, content),
            Checks.whole(Checks.COMMIT, first), Checks.whole(Checks.TREE, tree), Checks.whole(Checks.BLOB, 5))), 4);
        Checks.due(what, x.closure(1, Checks.id(kind, content)), -1);
    }

    private static void circles() {
        int[] tree = treeInItself();
        int id = Checks.id(Checks.TREE, tree);
        Run x = new Run();
        Checks.due("a tree in itself", Checks.receive(x,
            Checks.pack(Checks.whole(Checks.TREE, tree), Checks.whole(Checks.BLOB))), 2);
        Checks.due("its closure", x.closure(1, id), 2);
        Checks.store(x, Checks.BLOB);
        Checks.due("is no object of the server", Checks.store(x, Checks.TREE, tree), -1);
    }

    private static int[] treeInItself() {
        for (int id = 0; id < 65521; id++) {
            int[] tree = Checks.join(Checks.part(1, id), Checks.part(2, Checks.id(Checks.BLOB)));
            if (Checks.id(Checks.TREE, tree) == id) {
                return tree;
            }
        }
        throw new IllegalStateException("no tree is in itself");
    }
}
