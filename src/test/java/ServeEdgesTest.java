import java.util.Arrays;

/** Promise 12 and the terms it rests on at their edges: one test for each sentence that names one. */
public final class ServeEdgesTest {
    private static final int COMMIT = Checks.COMMIT;
    private static final int TREE = Checks.TREE;
    private static final int BLOB = Checks.BLOB;
    private static final int[] MOST = Checks.rising(0, 24);

    public static void main(String[] args) {
        nothingWanted();
        noneLeft();
        noWantsAndHavesAnyMore();
        bufferBecomesThePack();
        oneObjectToSixteen();
        largestPack();
        lessClosuresOfHaves();
        kindsInOrder();
        alikeThreeTimesOrMore();
        bytesUpToTheNextRun();
        emptyRow();
        sizeInTheHead();
        sizeOfDifferencesInTheHead();
        threeOrMoreOfTheBase();
        longestOfTheLowestPlace();
        stepsOfPutsTogether();
        differencesArePacked();
        wholeIfAmongTheShortest();
        latestOfTheShortest();
        earlierOfItsKindInThePack();
        backInTwoBytes();
        Checks.end();
    }

    /** Stores blobs, trees that name them all, and a commit, and wants that. */
    private static Run wanting(int[]... blobs) {
        Run x = new Run();
        int[] ids = new int[blobs.length];
        for (int i = 0; i < blobs.length; i++) {
            ids[i] = Checks.store(x, BLOB, blobs[i]);
        }
        // A tree has at most eight parts: what is more goes into a tree inside.
        int own = blobs.length <= 8 ? blobs.length : 7;
        int[] outer = parts(Arrays.copyOf(ids, own));
        if (own < blobs.length) {
            int inner = Checks.store(x, TREE, parts(Arrays.copyOfRange(ids, own, ids.length)));
            outer = Checks.join(outer, Checks.part(200, inner));
        }
        int commit = Checks.store(x, COMMIT, Checks.commit(Checks.store(x, TREE, outer), 7));
        Checks.due("point", x.point(0, commit), true);
        Checks.due("want", x.want(commit), true);
        return x;
    }

    private static int[] parts(int... ids) {
        int[] content = new int[0];
        for (int i = 0; i < ids.length; i++) {
            content = Checks.join(content, Checks.part(11 * i, ids[i]));
        }
        return content;
    }

    /** What is served ends, before the hash, with these entries; and the client gets all of it. */
    private static void endsWith(String what, Run x, int objects, int... entries) {
        Checks.due(what + ": serve", x.serve(), objects);
        int[] pack = Checks.buffer(x);
        int end = pack.length - 2;
        Checks.due(what + ": entries", Arrays.copyOfRange(pack, Math.max(0, end - entries.length), end), entries);
        Checks.due(what + ": number", pack[2], objects);
        Checks.due(what + ": hash", Arrays.copyOfRange(pack, end, end + 2), Checks.two(Checks.hash(Arrays.copyOf(pack, end))));
        Checks.due(what + ": receive", x.receive(), objects);
    }

    /** The entries of the blobs, as the server writes them, behind those of a commit and a tree. */
    private static void entries(String what, int[][] blobs, int[]... due) {
        endsWith(what, wanting(blobs), blobs.length + 2, Checks.join(due));
    }

    private static int[][] rows(int[]... rows) {
        return rows;
    }

    /** "-1, refused, if nothing is wanted." */
    private static void nothingWanted() {
        new Run().idle("serve of a new object", -1, PackStore::serve);
        Run x = Checks.busy();
        Checks.due("serve", x.serve(), 2);
        x.idle("serve again", -1, PackStore::serve);
        x.have(5);
        Checks.fill(x, 1, 2, 3);
        x.idle("serve with haves and a buffer", -1, PackStore::serve);
        Run full = wanting(rows(MOST));
        full.serve();
        Checks.add(full, Checks.times(500 - Checks.buffer(full).length, 9));
        full.idle("serve with a full buffer", -1, PackStore::serve);
    }

    /** "if there would be none, 0, and the buffer is empty then." */
    private static void noneLeft() {
        Run x = Checks.busy();
        Checks.due("have of what is wanted", x.have(x.ref(2)), true);
        Checks.due("serve", x.serve(), 0);
        Checks.due("the buffer", x.size(), 0);
        x.idle("nothing is wanted any more", -1, PackStore::serve);
        for (int i = 0; i < 8; i++) {
            Checks.due("no haves any more", x.have(i), true);
        }
        Checks.due("the server's objects", x.count(0), 4);
        Run full = Checks.busy();
        Checks.add(full, Checks.times(497, 9));
        full.have(full.ref(2));
        Checks.due("serve with a full buffer", full.serve(), 0);
        Checks.due("the full buffer", full.size(), 0);
    }

    /** "there are no wants and haves any more" */
    private static void noWantsAndHavesAnyMore() {
        Run x = Checks.busy();
        int second = x.ref(2);
        Checks.due("serve", x.serve(), 2);
        x.idle("the wants are gone", -1, PackStore::serve);
        for (int i = 1; i <= 8; i++) {
            Checks.due("room for have " + i, x.have(i), true);
        }
        x.refuses("and for no more", y -> y.have(9));
        Checks.due("want", x.want(second), true);
        Checks.due("the haves are gone", x.serve(), 4);
    }

    /** "the buffer becomes the pack" */
    private static void bufferBecomesThePack() {
        int[] commit = {19, 2, 0, 0, 7};
        int tree = Checks.id(TREE);
        commit[2] = tree >> 8;
        commit[3] = tree & 255;
        int[] due = Checks.pack(commit, Checks.row(32));
        int[] sizes = {0, 1, due.length - 1, due.length, due.length + 1, 500};
        for (int n : sizes) {
            Run x = wanting();
            Checks.add(x, Checks.times(n, 9));
            Checks.due("serve", x.serve(), 2);
            Checks.due("the pack instead of " + n + " bytes", Checks.buffer(x), due);
            Checks.due("no byte behind it", x.at(due.length), -1);
            Checks.due("the server's objects", x.count(0), 2);
            Checks.due("the client's", x.count(1), 0);
        }
    }

    /** "the number n of entries, 1 .. 16"; "Answers how many objects it has" */
    private static void oneObjectToSixteen() {
        Run one = Checks.busy();
        int first = one.ref(0);
        int tree = Checks.id(TREE, Checks.part(5, Checks.id(BLOB, 1, 2, 3)));
        one.have(first);
        Checks.due("serve of one", one.serve(), 1);
        Checks.due("a pack of one", Checks.buffer(one), Checks.pack(Checks.whole(COMMIT, Checks.commit(tree, 2, first))));
        Checks.due("receive of one", one.receive(), 1);
        for (int n = 0; n <= 13; n++) {
            int[][] blobs = new int[n][];
            for (int i = 0; i < n; i++) {
                blobs[i] = Checks.row(i);
            }
            int[] last = n == 0 ? Checks.row() : Checks.row(49, 0, n - 1);
            endsWith(n + " blobs", wanting(blobs), n + (n > 8 ? 3 : 2), last);
        }
    }

    /** A pack of all that a full server can hold, of which nothing is like another: the buffer has room for it. */
    private static void largestPack() {
        int[][] blobs = new int[13][24];
        for (int i = 0; i < 13; i++) {
            for (int k = 0; k < 24; k++) {
                // Each blob has steps of its own, so that no three bytes stand in another one too.
                blobs[i][k] = (97 * i + (2 * i + 1) * k) % 256;
            }
        }
        Run x = wanting(blobs);
        Checks.due("serve", x.serve(), 16);
        Checks.due("size", x.size(), 3 + 5 + 21 + 27 + 13 * 27 + 2);
        Checks.due("receive", x.receive(), 16);
        for (int[] blob : blobs) {
            Checks.due("a blob that came", Checks.content(x, 1, Checks.id(BLOB, blob)), blob);
        }
    }

    /** "the objects of the closures of all wants, less those of the closures of all haves that the server holds" */
    private static void lessClosuresOfHaves() {
        int blob = Checks.id(BLOB, 1, 2, 3);
        int tree = Checks.id(TREE, Checks.part(5, blob));
        int first = Checks.id(COMMIT, Checks.commit(tree, 1));
        int second = Checks.id(COMMIT, Checks.commit(tree, 2, first));
        int[][] had = {{}, {blob}, {tree}, {first}, {second}, {blob, tree}, {first, second}, {70001}, {70001, blob}, {-1}};
        int[] due = {4, 3, 2, 1, 0, 2, 0, 4, 3, 4};
        int[] dueOfFirst = {3, 2, 1, 0, 0, 1, 0, 3, 2, 3};
        for (int i = 0; i < had.length; i++) {
            Run x = Checks.busy();
            x.serve();
            Run y = x.again();
            x.want(second);
            y.want(first);
            for (int id : had[i]) {
                x.have(id);
                y.have(id);
            }
            Checks.due("less " + Arrays.toString(had[i]), x.serve(), due[i]);
            Checks.due("the first commit, less " + Arrays.toString(had[i]), y.serve(), dueOfFirst[i]);
        }
        Run both = Checks.busy();
        both.serve();
        both.want(first);
        both.want(second);
        Checks.due("two wants", both.serve(), 4);
        Run client = Checks.busy();
        client.serve();
        client.want(second);
        client.have(Checks.id(BLOB, 65, 66, 67));
        Checks.due("a have that only the client holds", client.serve(), 4);
    }

    /** "commits first, then trees, then blobs, of each kind in the store's order" */
    private static void kindsInOrder() {
        Run x = new Run();
        int[] two = {2};
        int[] one = {1};
        int laterBlob = Checks.store(x, BLOB, two);
        int[] inner = Checks.part(9, laterBlob);
        int innerTree = Checks.store(x, TREE, inner);
        int[] first = Checks.commit(innerTree, 200);
        int firstCommit = Checks.store(x, COMMIT, first);
        int blob = Checks.store(x, BLOB, one);
        int[] outer = Checks.join(Checks.part(1, blob), Checks.part(2, innerTree));
        int outerTree = Checks.store(x, TREE, outer);
        int[] second = Checks.commit(outerTree, 100, firstCommit);
        int commit = Checks.store(x, COMMIT, second);
        x.point(3, commit);
        x.want(commit);
        Checks.due("serve", x.serve(), 6);
        Checks.due("the order", Checks.buffer(x), Checks.pack(
            Checks.whole(COMMIT, first), Checks.whole(COMMIT, second),
            Checks.whole(TREE, inner), Checks.whole(TREE, outer),
            Checks.whole(BLOB, two), Checks.whole(BLOB, one)));
    }

    /** "if the same byte stands there three times or more in a row, it becomes a run of it, as often as it stands there" */
    private static void alikeThreeTimesOrMore() {
        entries("one", rows(Checks.row(5)), Checks.row(49, 0, 5));
        entries("two alike", rows(Checks.row(5, 5)), Checks.row(50, 1, 5, 5));
        for (int n = 3; n <= 24; n++) {
            int[] head = n < 16 ? Checks.row(48 + n) : Checks.row(176 + n - 16, 1);
            int[] bytes = {0, 5, 255};
            for (int b : bytes) {
                entries(n + " alike", rows(Checks.times(n, b)), head, Checks.row(125 + n, b));
            }
        }
    }

    /** "else the bytes up to the next place where one stands three times or more in a row, or to the end" */
    private static void bytesUpToTheNextRun() {
        entries("two within", rows(Checks.row(1, 5, 5, 2)), Checks.row(52, 3, 1, 5, 5, 2));
        entries("three within", rows(Checks.row(1, 5, 5, 5, 2)), Checks.row(53, 0, 1, 128, 5, 0, 2));
        entries("three at the end", rows(Checks.row(1, 2, 5, 5, 5)), Checks.row(53, 1, 1, 2, 128, 5));
        entries("two at the end", rows(Checks.row(1, 2, 5, 5)), Checks.row(52, 3, 1, 2, 5, 5));
        entries("three at the beginning", rows(Checks.row(5, 5, 5, 1)), Checks.row(52, 128, 5, 0, 1));
        entries("two at the beginning", rows(Checks.row(5, 5, 1)), Checks.row(51, 2, 5, 5, 1));
        entries("three and three", rows(Checks.row(5, 5, 5, 6, 6, 6)), Checks.row(54, 128, 5, 128, 6));
        entries("two and three", rows(Checks.row(5, 5, 6, 6, 6)), Checks.row(53, 1, 5, 5, 128, 6));
        entries("no two alike", rows(MOST), Checks.row(184, 1, 23), MOST);
    }

    /** "(An empty row is no run.)" */
    private static void emptyRow() {
        entries("an empty blob", rows(Checks.row()), Checks.row(48));
        entries("an empty blob behind another", rows(Checks.row(7), Checks.row()), Checks.row(49, 0, 7, 48));
    }

    /** "16 * sort + (size mod 16), + 128 if a byte follows, which is size / 16 (1 .. 15)" */
    private static void sizeInTheHead() {
        for (int n = 0; n <= 24; n++) {
            int[] head = n < 16 ? Checks.row(48 + n) : Checks.row(128 + 48 + n % 16, 1);
            int[] blob = Checks.rising(100, n);
            entries(n + " bytes", rows(blob), head, Checks.plain(blob));
        }
        int[] ids = new int[8];
        for (int n = 0; n <= 8; n++) {
            int[][] blobs = new int[n][];
            for (int i = 0; i < n; i++) {
                blobs[i] = Checks.row(i, 50 + i);
                ids[i] = Checks.id(BLOB, blobs[i]);
            }
            int[] tree = parts(Arrays.copyOf(ids, n));
            int size = 3 * n;
            Run x = wanting(blobs);
            Checks.due("serve", x.serve(), n + 2);
            int[] head = size < 16 ? Checks.row(32 + size) : Checks.row(128 + 32 + size % 16, 1);
            int[] due = Checks.join(head, Checks.plain(tree));
            Checks.due("a tree of " + size, Arrays.copyOfRange(Checks.buffer(x), 8, 8 + due.length), due);
        }
    }

    /** The same for the sizes of differences: of 15 bytes, and of 16. */
    private static void sizeOfDifferencesInTheHead() {
        int[] whole = Checks.join(Checks.row(184, 1, 23), MOST);
        int[] fifteen = Checks.join(Checks.rising(0, 14), Checks.rising(100, 10));
        entries("a difference of 15", rows(MOST, fifteen), whole,
            Checks.row(111, 0, 27, 14, 24, 24, 142, 0, 10), Checks.rising(100, 10));
        int[] sixteen = Checks.join(Checks.rising(0, 13), Checks.rising(100, 11));
        entries("a difference of 16", rows(MOST, sixteen), whole,
            Checks.row(224, 1, 0, 27, 15, 24, 24, 141, 0, 11), Checks.rising(100, 11));
        int[] fourteen = Checks.join(Checks.rising(0, 15), Checks.rising(100, 9));
        entries("a difference of 14", rows(MOST, fourteen), whole,
            Checks.row(110, 0, 27, 13, 24, 24, 143, 0, 9), Checks.rising(100, 9));
    }

    /** "if it has three or more, it becomes a step of the second kind" */
    private static void threeOrMoreOfTheBase() {
        int[] whole = Checks.join(Checks.row(184, 1, 23), MOST);
        int[] ten = Checks.rising(0, 10);
        entries("one of the base", rows(MOST, Checks.join(ten, Checks.row(99, 20))), whole,
            Checks.row(103, 0, 27, 6, 24, 12, 138, 0, 2, 99, 20));
        entries("two of the base", rows(MOST, Checks.join(ten, Checks.row(99, 20, 21))), whole,
            Checks.row(104, 0, 27, 7, 24, 13, 138, 0, 3, 99, 20, 21));
        entries("three of the base", rows(MOST, Checks.join(ten, Checks.row(99, 20, 21, 22))), whole,
            Checks.row(104, 0, 27, 7, 24, 14, 138, 0, 1, 99, 131, 20));
        entries("the last three of the base", rows(MOST, Checks.join(ten, Checks.row(99, 21, 22, 23))), whole,
            Checks.row(104, 0, 27, 7, 24, 14, 138, 0, 1, 99, 131, 21));
        entries("two of the base at its end", rows(MOST, Checks.join(ten, Checks.row(99, 22, 23))), whole,
            Checks.row(104, 0, 27, 7, 24, 13, 138, 0, 3, 99, 22, 23));
        entries("all but the last byte", rows(MOST, Checks.rising(0, 23)), whole,
            Checks.row(100, 0, 27, 3, 24, 23, 151, 0));
        entries("all but the first byte", rows(MOST, Checks.rising(1, 23)), whole,
            Checks.row(100, 0, 27, 3, 24, 23, 151, 1));
        int[] shorter = Checks.rising(0, 23);
        entries("all of the base", rows(shorter, MOST), Checks.row(183, 1, 22), shorter,
            Checks.row(102, 0, 26, 5, 23, 24, 151, 0, 1, 23));
    }

    /** "the longest row of bytes (of the lowest place) of the base that stands there" */
    private static void longestOfTheLowestPlace() {
        // 1 2 3 stands at 0, at 4 with a byte more, and at 9 with as many; the rows of ten make it worth while.
        int[] base = Checks.join(Checks.row(1, 2, 3, 50, 1, 2, 3, 4, 51, 1, 2, 3, 4, 52), Checks.rising(100, 10));
        int[] whole = Checks.join(Checks.row(184, 1, 23), base);
        int[] ten = Checks.rising(100, 10);
        entries("the longer, though later", rows(base, Checks.join(ten, Checks.row(1, 2, 3, 4))), whole,
            Checks.row(102, 0, 27, 5, 24, 14, 138, 14, 132, 4));
        entries("of two as long the first", rows(base, Checks.join(ten, Checks.row(1, 2, 3, 60))), whole,
            Checks.row(104, 0, 27, 7, 24, 14, 138, 14, 131, 0, 1, 60));
        entries("as long as the content is", rows(base, Checks.join(ten, Checks.row(1, 2, 3))), whole,
            Checks.row(102, 0, 27, 5, 24, 13, 138, 14, 131, 0));
        entries("the longest of the last place", rows(base, Checks.join(Checks.row(3, 4, 52), ten)), whole,
            Checks.row(100, 0, 27, 3, 24, 13, 141, 11));
    }

    /** "else the byte becomes part of a step of the first kind, together with those before it since the last step ..." */
    private static void stepsOfPutsTogether() {
        int[] whole = Checks.join(Checks.row(184, 1, 23), MOST);
        entries("before a copy", rows(MOST, Checks.join(Checks.row(90, 91), Checks.rising(5, 10))), whole,
            Checks.row(103, 0, 27, 6, 24, 12, 2, 90, 91, 138, 5));
        entries("behind a copy", rows(MOST, Checks.join(Checks.rising(5, 10), Checks.row(90, 91))), whole,
            Checks.row(103, 0, 27, 6, 24, 12, 138, 5, 2, 90, 91));
        entries("on both sides", rows(MOST, Checks.join(Checks.row(90), Checks.rising(5, 10), Checks.row(91))), whole,
            Checks.row(104, 0, 27, 7, 24, 12, 1, 90, 138, 5, 1, 91));
        entries("between copies", rows(MOST, Checks.join(Checks.rising(12, 9), Checks.row(90, 3, 4), Checks.rising(0, 9))),
            whole, Checks.row(106, 0, 27, 9, 24, 21, 137, 12, 3, 90, 3, 4, 137, 0));
        entries("copies side by side", rows(MOST, Checks.join(Checks.rising(12, 6), Checks.rising(0, 6))), whole,
            Checks.row(102, 0, 27, 5, 24, 12, 134, 12, 134, 0));
    }

    /** "and the difference from that, packed" */
    private static void differencesArePacked() {
        int[] whole = Checks.join(Checks.row(184, 1, 23), MOST);
        int[] ten = Checks.rising(0, 10);
        entries("two alike", rows(MOST, Checks.join(ten, Checks.row(77, 77))), whole,
            Checks.row(103, 0, 27, 6, 24, 12, 138, 0, 2, 77, 77));
        for (int n = 3; n <= 14; n++) {
            int[] head = n + 5 < 16 ? Checks.row(96 + n + 5) : Checks.row(224 + n + 5 - 16, 1);
            entries(n + " alike", rows(MOST, Checks.join(ten, Checks.times(n, 77))), whole,
                head, Checks.row(0, 27, 4, 24, 10 + n, 138, 0, n, 125 + n, 77));
        }
        entries("alike and then a copy", rows(MOST, Checks.join(Checks.times(4, 77), ten)), whole,
            Checks.row(105, 0, 27, 2, 24, 14, 4, 129, 77, 1, 138, 0));
    }

    /** "the shortest (in bytes, head and all); of several whole, if it is among them" */
    private static void wholeIfAmongTheShortest() {
        int[] whole = Checks.join(Checks.row(184, 1, 23), MOST);
        // A copy alone takes a head, two bytes back, a run's byte and four: eight, as a whole blob of six does.
        int[] five = Checks.rising(3, 5);
        entries("whole is shorter by one", rows(MOST, five), whole, Checks.row(53, 4), five);
        int[] six = Checks.rising(3, 6);
        entries("both are as short", rows(MOST, six), whole, Checks.row(54, 5), six);
        int[] seven = Checks.rising(3, 7);
        entries("the difference is shorter by one", rows(MOST, seven), whole, Checks.row(100, 0, 27, 3, 24, 7, 135, 3));
        // The head counts too: whole 2 + 1 + 16 bytes; as a difference of 14 bytes 1 + 2 + 1 + 14, of 15 as many as whole.
        int[] headed = Checks.join(Checks.rising(3, 7), Checks.rising(100, 9));
        entries("shorter by one, heads and all", rows(MOST, headed), whole,
            Checks.row(110, 0, 27, 13, 24, 16, 135, 3, 9), Checks.rising(100, 9));
        int[] asShort = Checks.join(Checks.rising(3, 6), Checks.rising(100, 10));
        entries("as short, heads and all", rows(MOST, asShort), whole, Checks.row(176, 1, 15), asShort);
        int[] alike = Checks.times(20, 9);
        entries("whole in one run", rows(Checks.join(alike, Checks.row(1)), alike),
            Checks.row(181, 1, 145, 9, 0, 1), Checks.row(180, 1, 145, 9));
    }

    /** "else that from the latest" */
    private static void latestOfTheShortest() {
        int[] a = Checks.rising(0, 12);
        int[] b = Checks.join(Checks.rising(0, 12), Checks.row(60, 61, 62));
        int[] c = Checks.join(Checks.rising(0, 12), Checks.row(70, 71, 72));
        int[] d = Checks.join(Checks.rising(0, 12), Checks.row(80));
        entries("of three the latest", rows(a, b, c, d), Checks.row(60, 11), a,
            Checks.row(104, 0, 14, 7, 12, 15, 140, 0, 3, 60, 61, 62),
            Checks.row(104, 0, 12, 7, 15, 15, 140, 0, 3, 70, 71, 72),
            Checks.row(102, 0, 12, 5, 15, 13, 140, 0, 1, 80));
        int[] e = Checks.join(Checks.rising(0, 12), Checks.row(60, 61, 62, 63));
        entries("the one in the middle is shorter", rows(a, b, c, e), Checks.row(60, 11), a,
            Checks.row(104, 0, 14, 7, 12, 15, 140, 0, 3, 60, 61, 62),
            Checks.row(104, 0, 12, 7, 15, 15, 140, 0, 3, 70, 71, 72),
            Checks.row(102, 0, 24, 5, 15, 16, 143, 0, 1, 63));
    }

    /** "by sort 6 as the difference from an earlier object of the pack of its kind" */
    private static void earlierOfItsKindInThePack() {
        int blob = Checks.id(BLOB, 1);
        int[] tree = parts(blob, blob, blob, blob, blob, blob, blob, blob);
        Run x = new Run();
        Checks.store(x, BLOB, 1);
        int[] like = Arrays.copyOf(tree, 23);
        int likeId = Checks.store(x, BLOB, like);
        int treeId = Checks.store(x, TREE, tree);
        int top = Checks.store(x, TREE, Checks.join(Checks.part(3, likeId), Checks.part(4, treeId)));
        int commit = Checks.store(x, COMMIT, Checks.commit(top, 7));
        x.point(0, commit);
        x.want(commit);
        endsWith("a blob like a tree", x, 5, Checks.join(Checks.row(49, 0, 1), Checks.row(183, 1, 22), like));
        trees();
        Run had = wanting(rows(MOST, Checks.rising(0, 23)));
        had.have(Checks.id(BLOB, MOST));
        endsWith("a blob like one that is had", had, 3, Checks.join(Checks.row(183, 1, 22), Checks.rising(0, 23)));
        entries("a blob like a later one", rows(Checks.rising(0, 23), MOST),
            Checks.row(183, 1, 22), Checks.rising(0, 23), Checks.row(102, 0, 26, 5, 23, 24, 151, 0, 1, 23));
    }

    /** Trees are written as differences from trees. */
    private static void trees() {
        Run x = new Run();
        int blob = Checks.store(x, BLOB, 1);
        int[] six = parts(blob, blob, blob, blob, blob, blob);
        int inner = Checks.store(x, TREE, six);
        int[] seven = Checks.join(six, Checks.part(250, inner));
        int outer = Checks.store(x, TREE, seven);
        int commit = Checks.store(x, COMMIT, Checks.commit(outer, 7));
        x.point(0, commit);
        x.want(commit);
        int[] difference = Checks.join(Checks.row(104, 0, 21, 7, 18, 21, 146, 0, 3, 250), Checks.two(inner));
        endsWith("a tree from a tree", x, 4,
            Checks.join(Checks.row(162, 1, 17), six, difference, Checks.row(49, 0, 1)));
    }

    /** "A BACK, how many bytes before its own head the head of the base's entry lies, in two bytes, the higher one first" */
    private static void backInTwoBytes() {
        for (int n = 8; n <= 13; n++) {
            // The base takes 27 bytes, and so does each of the eight blobs behind it; one more takes n + 2.
            int[][] blobs = new int[11][];
            for (int i = 0; i < 9; i++) {
                blobs[i] = Checks.rising(24 * i, 24);
            }
            blobs[9] = Checks.rising(216, n);
            blobs[10] = Checks.rising(0, 23);
            int back = 9 * 27 + n + 2;
            endsWith("a back of " + back, wanting(blobs), 14, 100, back / 256, back % 256, 3, 24, 23, 151, 0);
        }
    }
}
