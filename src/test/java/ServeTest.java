import java.util.Arrays;

/** Promise 12: which objects a pack has, in which order, and how each one is written. */
public final class ServeTest {
    public static void main(String[] args) {
        wholePack();
        haves();
        nothingDue();
        emptied();
        order();
        packedRuns();
        shortestEntry();
        latestBase();
        wholeIfAsShort();
        baseByDifference();
        lowestPlaceAndSteps();
        edgesOfCopies();
        afterClosure();
        largest();
        Checks.end();
    }

    /** Serves one commit of a tree of these blobs; answers the pack's bytes from the first blob's entry to the hash. */
    private static int[] blobEntries(int[]... blobs) {
        Run x = new Run();
        int[] parts = new int[0];
        for (int i = 0; i < blobs.length; i++) {
            parts = Checks.join(parts, Checks.part(i * 9, Checks.store(x, Checks.BLOB, blobs[i])));
        }
        int tree = Checks.store(x, Checks.TREE, parts);
        int commit = Checks.store(x, Checks.COMMIT, Checks.commit(tree, 1));
        x.point(0, commit);
        x.want(commit);
        Checks.due("serve", x.serve(), blobs.length + 2);
        int[] pack = Checks.buffer(x);
        int start = 3 + 5 + (parts.length < 16 ? 2 : 3) + parts.length;
        int[] body = Arrays.copyOf(pack, pack.length - 2);
        Checks.due("the pack's end", pack, Checks.sealed(body));
        Checks.due("the pack is received", x.receive(), blobs.length + 2);
        for (int[] blob : blobs) {
            Checks.due("what came", Checks.content(x, 1, Checks.id(Checks.BLOB, blob)), blob);
        }
        return Arrays.copyOfRange(pack, start, pack.length - 2);
    }

    private static void wholePack() {
        Run x = new Run();
        int blob = Checks.store(x, Checks.BLOB, 1, 2);
        int tree = Checks.store(x, Checks.TREE, Checks.part(5, blob));
        int commit = Checks.store(x, Checks.COMMIT, Checks.commit(tree, 9));
        x.point(1, commit);
        x.want(commit);
        x.put(1, 4);
        Checks.due("serve", x.serve(), 3);
        Checks.due("the pack", Checks.buffer(x), Checks.pack(
            Checks.join(Checks.row(19, 2), Checks.two(tree), Checks.row(9)),
            Checks.join(Checks.row(35, 2, 5), Checks.two(blob)),
            Checks.row(50, 1, 1, 2)));
        Checks.due("the server keeps all", x.count(0), 3);
        Checks.due("the client gets none yet", x.count(1), 0);
        Checks.due("the ref stays", x.ref(1), commit);
    }

    private static Run history(int[] ids) {
        Run x = new Run();
        ids[0] = Checks.store(x, Checks.BLOB, 1);
        ids[1] = Checks.store(x, Checks.BLOB, 2);
        ids[2] = Checks.store(x, Checks.TREE, Checks.part(1, ids[0]));
        ids[3] = Checks.store(x, Checks.TREE,
            Checks.join(Checks.part(1, ids[0]), Checks.part(2, ids[1]), Checks.part(3, ids[2])));
        ids[4] = Checks.store(x, Checks.COMMIT, Checks.commit(ids[2], 1));
        ids[5] = Checks.store(x, Checks.COMMIT, Checks.commit(ids[3], 2, ids[4]));
        x.point(0, ids[4]);
        x.point(1, ids[5]);
        return x;
    }

    private static void served(String what, int due, int wanted, int... had) {
        int[] ids = new int[6];
        Run x = history(ids);
        x.want(ids[wanted]);
        for (int i : had) {
            x.have(ids[i]);
        }
        Checks.due(what, x.serve(), due);
    }

    private static void haves() {
        served("all", 6, 5);
        served("the first commit", 3, 4);
        served("less the first commit's closure", 3, 5, 4);
        served("less a blob", 5, 5, 0);
        served("less a tree and its blob", 4, 5, 2);
        served("less two", 4, 5, 0, 1);
        served("less the whole tree", 2, 5, 3);
        served("less more than is wanted", 0, 4, 5);
        int[] ids = new int[6];
        Run x = history(ids);
        x.want(ids[4]);
        x.want(ids[5]);
        x.have(65535);
        Checks.due("two wants and an unknown have", x.serve(), 6);
    }

    private static void nothingDue() {
        int[] ids = new int[6];
        Run x = history(ids);
        x.put(7, 1);
        x.have(ids[5]);
        Checks.due("refused", x.serve(), -1);
        Checks.due("the buffer stays", Checks.buffer(x), 7);
        x.want(ids[5]);
        Checks.due("the have was still there", x.serve(), 0);
        Checks.due("the buffer is empty", x.size(), 0);
        Checks.due("no wants any more", x.serve(), -1);
        Checks.due("no haves any more", x.have(ids[5]), true);
    }

    private static void emptied() {
        int[] ids = new int[6];
        Run x = history(ids);
        x.want(ids[5]);
        x.have(ids[4]);
        Checks.due("serve", x.serve(), 3);
        Checks.due("again", x.serve(), -1);
        x.want(ids[5]);
        Checks.due("without the have", x.serve(), 6);
    }

    private static void order() {
        Run x = new Run();
        int empty = Checks.store(x, Checks.TREE);
        int late = Checks.store(x, Checks.BLOB, 1);
        int other = Checks.store(x, Checks.COMMIT, Checks.commit(empty, 1));
        int later = Checks.store(x, Checks.BLOB, 2);
        int tree = Checks.store(x, Checks.TREE, Checks.join(Checks.part(1, later), Checks.part(2, late)));
        int top = Checks.store(x, Checks.COMMIT, Checks.commit(tree, 2));
        x.point(0, top);
        x.point(1, other);
        x.want(top);
        x.want(other);
        Checks.due("serve", x.serve(), 6);
        Checks.due("commits, trees, blobs, as stored", Checks.buffer(x), Checks.pack(
            Checks.whole(Checks.COMMIT, Checks.commit(empty, 1)),
            Checks.whole(Checks.COMMIT, Checks.commit(tree, 2)),
            Checks.whole(Checks.TREE),
            Checks.whole(Checks.TREE, Checks.join(Checks.part(1, later), Checks.part(2, late))),
            Checks.whole(Checks.BLOB, 1),
            Checks.whole(Checks.BLOB, 2)));
    }

    private static void packedRuns() {
        Checks.due("an empty blob", blobEntries(Checks.row()), 48);
        Checks.due("two alike", blobEntries(Checks.row(5, 5)), 50, 1, 5, 5);
        Checks.due("three alike", blobEntries(Checks.row(5, 5, 5)), 51, 128, 5);
        Checks.due("24 alike", blobEntries(Checks.times(24, 200)), 184, 1, 149, 200);
        Checks.due("15 alike", blobEntries(Checks.times(15, 0)), 63, 140, 0);
        Checks.due("16 alike", blobEntries(Checks.times(16, 0)), 176, 1, 141, 0);
        Checks.due("some, four alike, some",
            blobEntries(Checks.row(1, 1, 2, 2, 2, 2, 3, 3)), 56, 1, 1, 1, 129, 2, 1, 3, 3);
        Checks.due("alike and alike", blobEntries(Checks.row(1, 1, 1, 2, 2, 2)), 54, 128, 1, 128, 2);
        Checks.due("alike at the end", blobEntries(Checks.row(1, 2, 2, 2)), 52, 0, 1, 128, 2);
        Checks.due("pairs alone", blobEntries(Checks.row(1, 1, 2, 2, 1, 1)), 54, 5, 1, 1, 2, 2, 1, 1);
    }

    private static void shortestEntry() {
        int[] base = Checks.row(1, 2, 3, 4, 5, 6, 7, 8, 9, 10, 11, 12);
        int[] entries = blobEntries(base, Checks.join(base, Checks.row(20)));
        Checks.due("a copy and a put", entries, Checks.join(
            Checks.whole(Checks.BLOB, base),
            Checks.row(102, 0, 14, 5, 12, 13, 140, 0, 1, 20)));
        int[] most = Checks.row(1, 2, 3, 4, 5, 6, 7, 8, 9, 10, 11, 12, 13, 14, 15, 16, 17, 18, 19, 20, 21, 22, 23, 24);
        entries = blobEntries(most, Arrays.copyOfRange(most, 4, 24));
        Checks.due("a copy alone", entries, Checks.join(
            Checks.whole(Checks.BLOB, most), Checks.row(100, 0, 27, 3, 24, 20, 148, 4)));
    }

    private static void latestBase() {
        int[] a = Checks.row(1, 2, 3, 4, 5, 6, 7, 8, 9, 10, 11, 12);
        int[] b = Checks.join(a, Checks.row(30, 31, 32));
        int[] c = Checks.join(a, Checks.row(40));
        Checks.due("of two as short the latest", blobEntries(a, b, c), Checks.join(
            Checks.whole(Checks.BLOB, a),
            Checks.row(104, 0, 14, 7, 12, 15, 140, 0, 3, 30, 31, 32),
            Checks.row(102, 0, 12, 5, 15, 13, 140, 0, 1, 40)));
        int[] far = Checks.row(90, 91, 92);
        Checks.due("the shorter, not the latest", blobEntries(a, far, c), Checks.join(
            Checks.whole(Checks.BLOB, a),
            Checks.whole(Checks.BLOB, far),
            Checks.row(102, 0, 19, 5, 12, 13, 140, 0, 1, 40)));
    }

    private static void wholeIfAsShort() {
        // As a difference: a head, two bytes back, and 3, 6, 134, 0 as one run: eight bytes, as many as whole.
        int[] base = Checks.row(1, 2, 3, 4, 5, 6, 7);
        Checks.due("as short as whole", blobEntries(base, Checks.row(1, 2, 3, 4, 5, 6)), Checks.join(
            Checks.whole(Checks.BLOB, base), Checks.whole(Checks.BLOB, 1, 2, 3, 4, 5, 6)));
        int[] longer = Checks.row(1, 2, 3, 4, 5, 6, 7, 8);
        Checks.due("shorter by one", blobEntries(longer, Checks.row(1, 2, 3, 4, 5, 6, 7)), Checks.join(
            Checks.whole(Checks.BLOB, longer), Checks.row(100, 0, 10, 3, 8, 7, 135, 0)));
    }

    private static void baseByDifference() {
        int[] a = Checks.row(1, 2, 3, 4, 5, 6, 7, 8, 9, 10);
        int[] b = Checks.join(a, Checks.row(20, 21, 22));
        int[] c = Checks.join(b, Checks.row(30));
        Checks.due("from one that is a difference itself", blobEntries(a, b, c), Checks.join(
            Checks.whole(Checks.BLOB, a),
            Checks.row(104, 0, 12, 7, 10, 13, 138, 0, 3, 20, 21, 22),
            Checks.row(102, 0, 12, 5, 13, 14, 141, 0, 1, 30)));
    }

    private static void lowestPlaceAndSteps() {
        int[] base = Checks.row(9, 1, 2, 3, 4, 5, 8, 1, 2, 3, 4, 5, 6, 7, 1, 2, 3, 4, 5, 6);
        int[] content = Checks.row(50, 1, 2, 3, 4, 5, 51, 2, 3, 4, 5, 6, 7, 1, 2, 52, 53);
        Checks.due("the longest, of the lowest place", blobEntries(base, content), Checks.join(
            Checks.whole(Checks.BLOB, base),
            Checks.row(109, 0, 23, 12, 20, 17, 1, 50, 133, 1, 1, 51, 136, 8, 2, 52, 53)));
        int[] short2 = Checks.row(1, 2, 60, 3, 4, 61, 1, 2, 3, 4, 5, 8, 1, 2, 3, 4, 5, 6, 7);
        Checks.due("two are too few for a copy", blobEntries(base, short2), Checks.join(
            Checks.whole(Checks.BLOB, base),
            Checks.row(107, 0, 23, 10, 20, 19, 6, 1, 2, 60, 3, 4, 61, 141, 1)));
        int[] runs = Checks.join(Checks.times(3, 0), Checks.row(1, 2, 3, 4, 5, 6, 7, 8, 9));
        Checks.due("a difference that is packed in runs", blobEntries(runs,
            Checks.join(Checks.times(11, 77), Checks.row(1, 2, 3, 4, 5, 6, 7, 8, 9))), Checks.join(
                Checks.row(60, 128, 0, 8, 1, 2, 3, 4, 5, 6, 7, 8, 9),
                Checks.row(224, 1, 0, 13, 2, 12, 20, 11, 136, 77, 1, 137, 3)));
    }

    private static void edgesOfCopies() {
        int[] ten = Checks.row(1, 2, 3, 4, 5, 6, 7, 8, 9, 10);
        int[] base = Checks.join(ten, Checks.row(20, 21, 22));
        Checks.due("a copy of three",
            blobEntries(base, Checks.join(ten, Checks.row(50, 20, 21, 22))), Checks.join(
                Checks.whole(Checks.BLOB, base), Checks.row(104, 0, 15, 7, 13, 14, 138, 0, 1, 50, 131, 10)));
        int[] zeros = Checks.join(ten, Checks.row(0, 0));
        Checks.due("no copy beyond the content", blobEntries(zeros, ten), Checks.join(
            Checks.whole(Checks.BLOB, zeros), Checks.row(100, 0, 14, 3, 12, 10, 138, 0)));
        Checks.due("no copy beyond the base", blobEntries(ten, zeros), Checks.join(
            Checks.whole(Checks.BLOB, ten), Checks.row(103, 0, 12, 6, 10, 12, 138, 0, 2, 0, 0)));
        int[] again = Checks.join(ten, Checks.row(1, 2, 3));
        Checks.due("the first place, though another matches too", blobEntries(again, ten), Checks.join(
            Checks.whole(Checks.BLOB, again), Checks.row(100, 0, 15, 3, 13, 10, 138, 0)));
    }

    private static void afterClosure() {
        int[] ids = new int[6];
        Run x = history(ids);
        x.want(ids[4]);
        Checks.due("a closure asked for in between", x.closure(0, ids[5]), 6);
        Checks.due("does not become wanted", x.serve(), 3);
    }

    private static void largest() {
        Run x = new Run();
        int[] ids = new int[14];
        int tree = Checks.store(x, Checks.TREE);
        for (int i = 0; i < 8; i++) {
            int[] blob = new int[24];
            for (int k = 0; k < 24; k++) {
                blob[k] = (i * 24 + k) % 256;
            }
            ids[i] = Checks.store(x, Checks.BLOB, blob);
        }
        int[] parts = new int[0];
        for (int i = 0; i < 8; i++) {
            parts = Checks.join(parts, Checks.part(i, ids[i]));
        }
        tree = Checks.store(x, Checks.TREE, parts);
        int commit = Checks.store(x, Checks.COMMIT, Checks.commit(tree, 0));
        for (int i = 1; i < 6; i++) {
            commit = Checks.store(x, Checks.COMMIT, Checks.commit(tree, i, commit));
        }
        x.point(0, commit);
        x.want(commit);
        Checks.due("serve", x.serve(), 15);
        Checks.due("receive", x.receive(), 15);
        Checks.due("closure", x.closure(1, commit), 15);
    }
}
