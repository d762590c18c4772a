import java.util.ArrayList;
import java.util.Arrays;
import java.util.List;

/** What the tests share: checks of answers, and ways to build contents and packs by hand. */
final class Checks {
    static final int COMMIT = 1;
    static final int TREE = 2;
    static final int BLOB = 3;

    private static int wrong = 0;

    private Checks() {
    }

    static void due(String what, long got, long want) {
        if (got != want) {
            wrong++;
            System.out.println(what + " answered " + got + ", due is " + want);
        }
    }

    static void due(String what, boolean got, boolean want) {
        due(what, got ? 1 : 0, want ? 1 : 0);
    }

    static void due(String what, int[] got, int... want) {
        if (!Arrays.equals(got, want)) {
            wrong++;
            System.out.println(what + " is " + Arrays.toString(got) + ", due is " + Arrays.toString(want));
        }
    }

    static void due(String what, List<String> got, List<String> want) {
        if (!got.equals(want)) {
            wrong++;
            List<String> gone = new ArrayList<>(want);
            gone.removeAll(got);
            List<String> come = new ArrayList<>(got);
            come.removeAll(want);
            System.out.println(what + " has " + come + ", due is " + gone);
        }
    }

    static void end() {
        System.out.println(wrong == 0 ? "all answers are as due" : wrong + " answers are not as due");
        if (wrong != 0) {
            System.exit(1);
        }
    }

    static int[] row(int... numbers) {
        return numbers;
    }

    static int[] join(int[]... rows) {
        return Arrays.stream(rows).flatMapToInt(Arrays::stream).toArray();
    }

    static int[] two(int number) {
        return row(number >> 8, number & 255);
    }

    static int[] times(int n, int b) {
        int[] row = new int[n];
        Arrays.fill(row, b);
        return row;
    }

    static int hash(int... numbers) {
        long h = 7;
        for (int x : numbers) {
            h = (h * 257 + x) % 65521;
        }
        return (int) h;
    }

    static int id(int kind, int... content) {
        int id = hash(join(row(kind, content.length), content));
        Looks.know(id);
        return id;
    }

    /** A content of n bytes, 3 or more, with which an object of that kind has that ID. */
    static int[] withId(int kind, int n, int id) {
        int[] content = new int[n];
        for (int i = 0; i < 1 << 24; i++) {
            content[n - 3] = i >> 16;
            content[n - 2] = (i >> 8) & 255;
            content[n - 1] = i & 255;
            if (hash(join(row(kind, n), content)) == id) {
                return content;
            }
        }
        throw new IllegalStateException("no such content");
    }

    /** A content that goes on behind the given one by three bytes, with which a blob has the same ID. */
    static int[] longerTwin(int... content) {
        int n = content.length;
        int id = id(BLOB, content);
        int[] longer = Arrays.copyOf(content, n + 3);
        for (int i = 0; i < 1 << 24; i++) {
            longer[n] = i >> 16;
            longer[n + 1] = (i >> 8) & 255;
            longer[n + 2] = i & 255;
            if (hash(join(row(BLOB, n + 3), longer)) == id) {
                return longer;
            }
        }
        throw new IllegalStateException("no such content");
    }

    static int[] part(int name, int id) {
        return join(row(name), two(id));
    }

    /** A commit's content: the tree, the parents and the last byte. */
    static int[] commit(int tree, int last, int... parents) {
        int[] content = two(tree);
        for (int parent : parents) {
            content = join(content, two(parent));
        }
        return join(content, row(last));
    }

    static void fill(Run x, int... bytes) {
        x.cut(0);
        add(x, bytes);
    }

    /** Puts the bytes, as many at once as can be, because the calls on an object are counted. */
    static void add(Run x, int... bytes) {
        for (int p = 0; p < bytes.length; p += 4) {
            int n = Math.min(4, bytes.length - p);
            int word = 0;
            for (int i = 0; i < n; i++) {
                word = word << 8 | bytes[p + i];
            }
            due("put", x.put(word, n), true);
        }
    }

    static int store(Run x, int kind, int... content) {
        fill(x, content);
        return x.store(kind);
    }

    static int[] buffer(Run x) {
        int[] bytes = new int[(int) x.aside(PackStore::size)];
        for (int p = 0; p < bytes.length; p++) {
            int place = p;
            bytes[p] = (int) x.aside(y -> y.at(place));
        }
        return bytes;
    }

    static int[] content(Run x, int side, int id) {
        int[] bytes = new int[Math.max(0, (int) x.aside(y -> y.length(side, id)))];
        for (int i = 0; i < bytes.length; i++) {
            int place = i;
            bytes[i] = (int) x.aside(y -> y.content(side, id, place));
        }
        return bytes;
    }

    static int receive(Run x, int... pack) {
        fill(x, pack);
        return x.receive();
    }

    static int[] pack(int[]... entries) {
        return sealed(join(row(80, 1, entries.length), join(entries)));
    }

    static int[] sealed(int... bytes) {
        return join(bytes, two(hash(bytes)));
    }

    static int[] head(int sort, int size) {
        return size < 16 ? row(16 * sort + size) : row(128 + 16 * sort + size % 16, size / 16);
    }

    /** One run of the bytes as they are; none if there are none. */
    static int[] plain(int... bytes) {
        return bytes.length == 0 ? bytes : join(row(bytes.length - 1), bytes);
    }

    static int[] whole(int kind, int... content) {
        id(kind, content);
        return join(head(kind, content.length), plain(content));
    }

    static int[] byBack(int back, int... difference) {
        return join(head(6, difference.length), two(back), plain(difference));
    }

    static int[] byId(int id, int... difference) {
        return join(head(7, difference.length), two(id), plain(difference));
    }

    static Run withClient(int[]... blobs) {
        Run x = new Run();
        List<int[]> entries = new ArrayList<>();
        for (int[] blob : blobs) {
            entries.add(whole(BLOB, blob));
        }
        due("receive of blobs", receive(x, pack(entries.toArray(new int[0][]))), blobs.length);
        return x;
    }

    /** An object in the midst of its work: sides, buffer, refs, wants and haves all hold something. */
    static Run busy() {
        Run x = new Run();
        int blob = store(x, BLOB, 1, 2, 3);
        int tree = store(x, TREE, part(5, blob));
        int first = store(x, COMMIT, commit(tree, 1));
        int second = store(x, COMMIT, commit(tree, 2, first));
        due("point 0", x.point(0, first), true);
        due("point 2", x.point(2, second), true);
        due("want", x.want(first), true);
        due("serve", x.serve(), 3);
        due("receive", x.receive(), 3);
        due("receive", receive(x, pack(whole(BLOB, 65, 66, 67))), 1);
        due("want", x.want(second), true);
        due("have a tree", x.have(tree), true);
        due("have what nobody holds", x.have(70000), true);
        fill(x, 9, 8, 7);
        return x;
    }

    /** Bytes that rise from a first one on, so that no two are alike. */
    static int[] rising(int first, int n) {
        int[] row = new int[n];
        for (int i = 0; i < n; i++) {
            row[i] = first + i;
        }
        return row;
    }

    /** A buffer of n bytes. */
    static Run filled(int n) {
        Run x = new Run();
        for (int p = 0; p < n; p += 4) {
            due("put", x.put(0x01020304 * (p % 50), Math.min(4, n - p)), true);
        }
        return x;
    }

    /** Stores a blob, a tree of it and a commit of that which has the given ID. */
    static void storeCommitOfId(Run x, int id) {
        for (int i = 0; i < 1 << 24; i++) {
            int[] tree = join(row(i & 255), two(hash(BLOB, 1, i >> 16)));
            int[] content = commit(hash(join(row(TREE, 3), tree)), (i >> 8) & 255);
            if (hash(join(row(COMMIT, 3), content)) == id) {
                store(x, BLOB, i >> 16);
                store(x, TREE, tree);
                due("store of a commit of the ID " + id, store(x, COMMIT, content), id);
                return;
            }
        }
        throw new IllegalStateException("no such commit");
    }
}
