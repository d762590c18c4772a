import java.util.ArrayList;
import java.util.Arrays;
import java.util.List;

/** What the tests share: checks of answers, and ways to build contents and packs by hand. */
final class Checks {
    static final int COMMIT = 1;
    static final int TREE = 2;
    static final int BLOB = 3;

    private static int wrong = 0;

    private Checks() {
    }

    static void due(String what, long got, long want) {
        if (got != want) {
            wrong++;
            System.out.println(what + " answered " + got + ", due is " + want);
        }
    }

    static void due(String what, boolean got, boolean want) {
        due(what, got ? 1 : 0, want ? 1 : 0);
    }

    static void due(String what, int[] got, int... want) {
        if (!Arrays.equals(got, want)) {
            wrong++;
            System.out.println(what + " is " + Arrays.toString(got) + ", due is " + Arrays.toString(want));
        }
    }

    static void end() {
        System.out.println(wrong == 0 ? "all answers are as due" : wrong + " answers are not as due");
        if (wrong != 0) {
            System.exit(1);
        }
    }

    static int[] row(int... numbers) {
        return numbers;
    }

    static int[] join(int[]... rows) {
        return Arrays.stream(rows).flatMapToInt(Arrays::stream).toArray();
    }

    static int[] two(int number) {
        return row(number >> 8, number & 255);
    }

    static int[] times(int n, int b) {
        int[] row = new int[n];
        Arrays.fill(row, b);
        return row;
    }

    static int hash(int... numbers) {
        long h = 7;
        for (int x : numbers) {
            h = (h * 257 + x) % 65521;
        }
        return (int) h;
    }

    static int id(int kind, int... content) {
        return hash(join(row(kind, content.length), content));
    }

    /** A content of n bytes, 3 or more, with which an object of that kind has that ID. */
    static int[] withId(int kind, int n, int id) {
        int[] content = new int[n];
        for (int i = 0; i < 1 << 24; i++) {
            content[n - 3] = i >> 16;
            content[n - 2] = (i >> 8) & 255;
            content[n - 1] = i & 255;
            if (id(kind, content) == id) {
                return content;
            }
        }
        throw new IllegalStateException("no such content");
    }

    static int[] part(int name, int id) {
        return join(row(name), two(id));
    }

    /** A commit's content: the tree, the parents and the last byte. */
    static int[] commit(int tree, int last, int... parents) {
        int[] content = two(tree);
        for (int parent : parents) {
            content = join(content, two(parent));
        }
        return join(content, row(last));
    }

    static void fill(PackStore x, int... bytes) {
        x.cut(0);
        for (int b : bytes) {
            x.put(b, 1);
        }
    }

    static int store(PackStore x, int kind, int... content) {
        fill(x, content);
        return x.store(kind);
    }

    static int[] buffer(PackStore x) {
        int[] bytes = new int[x.size()];
        for (int p = 0; p < bytes.length; p++) {
            bytes[p] = x.at(p);
        }
        return bytes;
    }

    static int[] content(PackStore x, int side, int id) {
        int[] bytes = new int[Math.max(0, x.length(side, id))];
        for (int i = 0; i < bytes.length; i++) {
            bytes[i] = x.content(side, id, i);
        }
        return bytes;
    }

    static int receive(PackStore x, int... pack) {
        fill(x, pack);
        return x.receive();
    }

    static int[] pack(int[]... entries) {
        return sealed(join(row(80, 1, entries.length), join(entries)));
    }

    static int[] sealed(int... bytes) {
        return join(bytes, two(hash(bytes)));
    }

    static int[] head(int sort, int size) {
        return size < 16 ? row(16 * sort + size) : row(128 + 16 * sort + size % 16, size / 16);
    }

    /** One run of the bytes as they are; none if there are none. */
    static int[] plain(int... bytes) {
        return bytes.length == 0 ? bytes : join(row(bytes.length - 1), bytes);
    }

    static int[] whole(int kind, int... content) {
        return join(head(kind, content.length), plain(content));
    }

    static int[] byBack(int back, int... difference) {
        return join(head(6, difference.length), two(back), plain(difference));
    }

    static int[] byId(int id, int... difference) {
        return join(head(7, difference.length), two(id), plain(difference));
    }

    static PackStore withClient(int[]... blobs) {
        PackStore x = new PackStore();
        List<int[]> entries = new ArrayList<>();
        for (int[] blob : blobs) {
            entries.add(whole(BLOB, blob));
        }
        due("receive of blobs", receive(x, pack(entries.toArray(new int[0][]))), blobs.length);
        return x;
    }
}
