import java.util.Arrays;

/** Promise 13, the reading of packs, at its edges: one test for each sentence of the document that names one. */
public final class ReadEdgesTest {
    private static final int COMMIT = Checks.COMMIT;
    private static final int TREE = Checks.TREE;
    private static final int BLOB = Checks.BLOB;
    private static final int[] ABC = {65, 66, 67};
    private static final int ROOM = 500;
    private static final int[] SORTS = {1, 2, 3, 6, 7};

    public static void main(String[] args) {
        missingBytes();
        firstBytes();
        numberOfEntries();
        sortsOfHeads();
        secondBytesOfHeads();
        sizesOfWholeObjects();
        sizesOfDifferences();
        backsToHeads();
        backsOfTwoBytes();
        idsOfBases();
        runsWithinTheSize();
        runsUntilTheSize();
        noRunIfEmpty();
        longRuns();
        hashOfAllBefore();
        noByteBehind();
        fullBuffer();
        bufferStays();
        Checks.end();
    }

    /** The pack is faulty at that place, and nothing changes. */
    private static void faulty(String what, int place, int... bytes) {
        Run x = Checks.busy();
        Checks.fill(x, bytes);
        x.idle(what, -1 - place, PackStore::receive);
    }

    /** The same where there are many of them: only the answer. */
    private static void answers(String what, int due, int... bytes) {
        Run x = new Run();
        Checks.add(x, bytes);
        Checks.due(what + " " + Arrays.toString(bytes), x.receive(), due);
    }

    /** A pack of these entries is no faulty one, and so many objects are new in it. */
    private static void brings(String what, int due, int[]... entries) {
        Run x = Checks.busy();
        int[] pack = Checks.pack(entries);
        int before = x.count(1);
        Checks.due(what, Checks.receive(x, pack), due);
        Checks.due(what + ": the buffer", Checks.buffer(x), pack);
        Checks.due(what + ": count", x.count(1), before + due);
    }

    /** "where a byte is missing, at the place where it would be" */
    private static void missingBytes() {
        int[] pack = Checks.pack(Checks.whole(BLOB, 1, 2, 4), Checks.byBack(5, 3, 3, 131, 0),
            Checks.byId(Checks.id(BLOB, ABC), 3, 3, 131, 0), Checks.row(176, 1, 141, 9), Checks.row(224, 1, 0, 4, 141, 9));
        for (int n = 0; n < pack.length; n++) {
            faulty("the first " + n + " bytes", n, Arrays.copyOf(pack, n));
        }
        new Run().idle("an empty buffer", -1, PackStore::receive);
    }

    /** "the bytes 80 and 1"; "The first bytes must be as said" */
    private static void firstBytes() {
        int[] good = Checks.pack(Checks.whole(BLOB));
        brings("80 and 1", 1, Checks.whole(BLOB));
        for (int b = 0; b < 256; b++) {
            int[] first = good.clone();
            first[0] = b;
            answers("the first byte " + b, b == 80 ? 1 : -1, b == 80 ? good : sealedAgain(first));
            int[] second = good.clone();
            second[1] = b;
            answers("the second byte " + b, b == 1 ? 1 : -2, b == 1 ? good : sealedAgain(second));
        }
        faulty("79", 0, 79, 1, 1);
        faulty("81", 0, 81, 1, 1);
        faulty("80 and 0", 1, 80, 0, 1);
        faulty("80 and 2", 1, 80, 2, 1);
        faulty("neither", 0, 1, 80);
    }

    private static int[] sealedAgain(int... pack) {
        return Checks.sealed(Arrays.copyOf(pack, pack.length - 2));
    }

    /** "the number n of entries, 1 .. 16" */
    private static void numberOfEntries() {
        for (int n = 1; n <= 16; n++) {
            int[][] entries = new int[n][];
            for (int i = 0; i < n; i++) {
                entries[i] = Checks.whole(BLOB, i);
            }
            brings(n + " entries", n, entries);
        }
        int[][] entries = new int[17][];
        Arrays.fill(entries, Checks.whole(BLOB));
        faulty("17 entries", 2, Checks.pack(entries));
        faulty("no entry", 2, Checks.sealed(80, 1, 0));
        for (int n = 0; n < 256; n++) {
            answers("the number", n < 1 || n > 16 ? -3 : -4, 80, 1, n);
        }
        faulty("an entry less than said", 4, 80, 1, 2, 48);
    }

    /** "a head's sort is one of these (at fault at its first byte)" */
    private static void sortsOfHeads() {
        for (int head = 0; head < 256; head++) {
            int sort = head / 16 % 8;
            boolean good = Arrays.stream(SORTS).anyMatch(s -> s == sort);
            // Behind each good head a byte is missing: of the head, a base, a run or the hash.
            answers("a head", good ? -5 : -4, 80, 1, 1, head);
            answers("a head and more", good ? -6 : -5, 80, 1, 2, 48, head);
        }
        int[] wrong = {0, 4, 5, 8, 12, 13};
        for (int sort : wrong) {
            faulty("sort " + sort, 3, Checks.sealed(80, 1, 1, 16 * sort));
            faulty("sort " + sort + " with a byte", 3, Checks.sealed(80, 1, 1, 16 * sort + 1, 0, 9));
            faulty("sort " + sort + " in the second entry", 6, Checks.sealed(80, 1, 2, 49, 0, 9, 16 * sort));
        }
    }

    /** "its second byte, if there is one, 1 .. 15" */
    private static void secondBytesOfHeads() {
        for (int sort : SORTS) {
            for (int low = 0; low < 16; low++) {
                for (int b = 0; b < 256; b++) {
                    boolean tooBig = sort <= 3 && 16 * b + low > 24;
                    boolean good = b >= 1 && b <= 15 && !tooBig;
                    answers("a head's second byte", good ? -6 : -5, 80, 1, 1, 128 + 16 * sort + low, b);
                }
            }
        }
        faulty("a second byte 0", 4, Checks.sealed(80, 1, 1, 176, 0));
        faulty("a second byte 0 for a size that needs none", 4, Checks.sealed(80, 1, 1, 177, 0, 0, 5));
        faulty("a second byte 16", 4, Checks.sealed(80, 1, 1, 240, 16, 0, 0));
        faulty("a second byte 255", 4, Checks.sealed(80, 1, 1, 240, 255, 0, 0));
        brings("a second byte 1", 1, Checks.row(176, 1, 141, 9));
        faulty("no second byte", 4, 80, 1, 1, 176);
    }

    /** "for the sorts 1 to 3 the size at most 24 (at fault at the last byte of the head)" */
    private static void sizesOfWholeObjects() {
        for (int n = 0; n <= 24; n++) {
            brings("a blob of " + n, 1, Checks.whole(BLOB, Checks.rising(100, n)));
        }
        for (int kind = 1; kind <= 3; kind++) {
            int[] more = {25, 26, 31, 32, 40, 255};
            for (int size : more) {
                int[] entry = Checks.join(Checks.head(kind, size), Checks.plain(Checks.rising(0, Math.min(size, 128))));
                faulty("an object of " + size, 4, Checks.pack(entry));
            }
        }
        int[] parts = Checks.join(Checks.part(0, 1), Checks.part(1, 1), Checks.part(2, 1), Checks.part(3, 1));
        int[] eight = Checks.join(parts, Checks.part(4, 1), Checks.part(5, 1), Checks.part(6, 1), Checks.part(7, 1));
        brings("a tree of 24", 1, Checks.whole(TREE, eight));
        brings("a commit of 7", 1, Checks.whole(COMMIT, 0, 0, 0, 0, 0, 0, 0));
        int[] second = Checks.join(Checks.row(49, 0, 9), Checks.head(BLOB, 25), Checks.plain(Checks.rising(0, 25)));
        faulty("the second of 25", 7, Checks.sealed(Checks.join(Checks.row(80, 1, 2), second)));
    }

    /** A difference may have more than 24 bytes, up to the 255 that a head can tell. */
    private static void sizesOfDifferences() {
        int abc = Checks.id(BLOB, ABC);
        int[] puts = {3, 24};
        for (int i = 0; i < 24; i++) {
            puts = Checks.join(puts, Checks.row(1, 100 + i));
        }
        brings("a difference of 50 bytes", 1, Checks.byId(abc, puts));
        int[] sizes = {0, 1, 15, 16, 24, 25, 254, 255};
        for (int size : sizes) {
            int[] row = Checks.rising(0, Math.min(size, 128));
            int[] rest = Checks.times(size - row.length, 7);
            int[] packed = Checks.join(Checks.plain(row), rest.length == 0 ? rest : Checks.row(rest.length + 125, 7));
            int[] entry = Checks.join(Checks.head(7, size), Checks.two(abc), packed);
            Run x = Checks.busy();
            Checks.fill(x, Checks.pack(entry));
            x.idle("a difference of " + size + " bytes is read, and is none from its base", -1000, PackStore::receive);
        }
    }

    /** "a back leads to the head of an earlier entry (at fault at its second byte)" */
    private static void backsToHeads() {
        int[] first = Checks.whole(BLOB, 11, 12, 13);
        int[] second = Checks.whole(BLOB, 14, 15);
        int[] ofThree = {3, 0};
        int[] ofTwo = {2, 0};
        // The heads lie at 3 and at 8, the third at 12; behind its head lie the two bytes of the back.
        for (int back = 0; back < 65536; back++) {
            int due = back == 4 || back == 9 ? -1000 : -15;
            answers("a back", due, Checks.pack(first, second, Checks.byBack(back, 1, 0)));
        }
        brings("back to the entry before", 3, first, second, Checks.byBack(4, ofTwo));
        brings("back to the first entry", 3, first, second, Checks.byBack(9, ofThree));
        int[] wrong = {0, 1, 3, 5, 8, 10, 12, 13, 256 + 4, 256 + 9, 65535, 65532};
        for (int back : wrong) {
            faulty("a back of " + back, 14, Checks.pack(first, second, Checks.byBack(back, ofThree)));
        }
        faulty("back to itself", 5, Checks.pack(Checks.byBack(0, ofThree)));
        faulty("back from the first entry to the pack's first byte", 5, Checks.pack(Checks.byBack(3, ofThree), first));
        faulty("back to a later entry", 5, Checks.pack(Checks.byBack(65536 - 6, ofThree), first));
        faulty("back to a byte 49 that is no head", 11,
            Checks.pack(Checks.whole(BLOB, 49, 49, 49), Checks.whole(BLOB), Checks.byBack(3, ofThree)));
    }

    /** "in two bytes, the higher one first" */
    private static void backsOfTwoBytes() {
        for (int n = 8; n <= 13; n++) {
            int[][] entries = new int[11][];
            for (int i = 0; i < 9; i++) {
                entries[i] = Checks.whole(BLOB, Checks.rising(24 * i, 24));
            }
            entries[9] = Checks.whole(BLOB, Checks.rising(216, n));
            int back = 9 * 27 + n + 2;
            entries[10] = Checks.byBack(back, 24, 23, 151, 0);
            brings("a back of " + back, 11, entries);
            entries[10] = Checks.byBack(back - 1, 24, 23, 151, 0);
            faulty("a back of one less than " + back, 3 + back + 2, Checks.pack(entries));
            entries[10] = Checks.byBack(back + 1, 24, 23, 151, 0);
            faulty("a back of one more than " + back, 3 + back + 2, Checks.pack(entries));
            int turned = back % 256 * 256 + back / 256;
            if (turned == back) {
                continue;
            }
            entries[10] = Checks.byBack(turned, 24, 23, 151, 0);
            faulty("the lower byte of " + back + " first", 3 + back + 2, Checks.pack(entries));
        }
    }

    /** "7: the ID of the base in two bytes": any two bytes can be there. */
    private static void idsOfBases() {
        int[] ids = {0, 255, 256, 65280, 65520};
        for (int id : ids) {
            int[] base = Checks.withId(BLOB, 4, id);
            brings("the ID " + id, 2, Checks.whole(BLOB, base), Checks.byId(id, 4, 1, 129, 3));
        }
        int[] none = {65521, 65535};
        for (int id : none) {
            Run x = Checks.busy();
            Checks.fill(x, Checks.pack(Checks.byId(id, 0, 0)));
            x.idle("what no object has as its ID", -1000, PackStore::receive);
        }
    }

    /** "each run stays within the size (at fault at its first byte"; c + 1 bytes as they are, or one c - 125 times */
    private static void runsWithinTheSize() {
        for (int size = 1; size < 16; size++) {
            for (int c = 0; c < 256; c++) {
                int run = c < 128 ? c + 1 : c - 125;
                // A run within the size lacks its first byte.
                answers("a run", run > size ? -5 : -6, 80, 1, 1, 48 + size, c);
            }
        }
        for (int size = 1; size <= 24; size++) {
            int[] plain = Checks.join(Checks.head(BLOB, size), Checks.row(size), Checks.rising(0, size + 1));
            int head = size < 16 ? 1 : 2;
            faulty("as they are, one more than " + size, 3 + head, Checks.pack(plain));
            if (size >= 2) {
                int[] alike = Checks.join(Checks.head(BLOB, size), Checks.row(size + 126, 9));
                faulty("alike, one more than " + size, 3 + head, Checks.pack(alike));
            }
            if (size >= 3) {
                brings("alike, " + size, 1, Checks.join(Checks.head(BLOB, size), Checks.row(size + 125, 9)));
            }
        }
        faulty("the second run is too long by one", 7, Checks.sealed(80, 1, 1, 53, 1, 8, 9, 3, 1, 2, 3, 4));
        brings("the second run fits", 1, Checks.row(53, 1, 8, 9, 2, 1, 2, 3));
        faulty("the second run is too often by one", 7, Checks.sealed(80, 1, 1, 53, 1, 8, 9, 129, 7));
        brings("the second run is as often as can be", 1, Checks.row(53, 1, 8, 9, 128, 7));
        faulty("three times for two that are left", 7, Checks.sealed(80, 1, 1, 52, 1, 8, 9, 128, 7));
    }

    /** "until the size is reached there are runs" */
    private static void runsUntilTheSize() {
        Run x = new Run();
        int[] content = {1, 2, 2, 2, 3, 4};
        Checks.due("three runs", Checks.receive(x, Checks.pack(Checks.row(54, 0, 1, 128, 2, 1, 3, 4))), 1);
        Checks.due("what came of them", Checks.content(x, 1, Checks.id(BLOB, content)), content);
        int[] singles = Checks.head(BLOB, 24);
        for (int i = 0; i < 24; i++) {
            singles = Checks.join(singles, Checks.row(0, i));
        }
        brings("24 runs", 1, singles);
        int[] threes = Checks.head(BLOB, 24);
        for (int i = 0; i < 8; i++) {
            threes = Checks.join(threes, Checks.row(128, 7));
        }
        brings("eight runs that are one", 1, threes);
        faulty("a run less", 6, 80, 1, 1, 51, 0, 9);
        faulty("a byte of a run less", 6, 80, 1, 1, 51, 2, 9);
        // The head of the next entry is taken for a run, because a byte is still due.
        faulty("what looks like the next entry", 6, Checks.sealed(80, 1, 2, 50, 0, 9, 49, 0, 9));
    }

    /** "none, if it is 0" */
    private static void noRunIfEmpty() {
        brings("an empty blob", 1, Checks.row(48));
        brings("an empty tree", 1, Checks.row(32));
        int hash = Checks.hash(80, 1, 1, 48);
        for (int b = 0; b < 256; b++) {
            answers("a byte behind an empty blob", b == hash / 256 ? -6 : -5, 80, 1, 1, 48, b);
        }
        brings("an empty one between others", 3, Checks.whole(BLOB, 1), Checks.row(48), Checks.whole(BLOB, 2));
    }

    /** "a byte c below 128, and then c + 1 bytes"; "a byte c from 128 on, and then one byte that stands c - 125 times" */
    private static void longRuns() {
        int abc = Checks.id(BLOB, ABC);
        int[][] packed = {
            Checks.plain(Checks.rising(0, 127)), Checks.plain(Checks.rising(0, 128)),
            {254, 9}, {255, 9}, Checks.join(Checks.row(255, 9), Checks.plain(Checks.rising(0, 125))),
        };
        int[] sizes = {127, 128, 129, 130, 255};
        for (int i = 0; i < sizes.length; i++) {
            int[] fits = Checks.join(Checks.head(7, sizes[i]), Checks.two(abc), packed[i]);
            Run x = Checks.busy();
            Checks.fill(x, Checks.pack(fits));
            // It is read to its end, and only then seen to be no difference from its base.
            x.idle("runs of " + sizes[i], -1000, PackStore::receive);
            int[] less = Checks.join(Checks.head(7, sizes[i] - 1), Checks.two(abc), packed[i]);
            int place = sizes[i] == 255 ? 9 : 7;
            faulty("runs of " + sizes[i] + " in one less", place, Checks.pack(less));
        }
    }

    /** "then the hash"; "the hash of all bytes before, in two bytes, the higher one first" */
    private static void hashOfAllBefore() {
        int[] pack = Checks.pack(Checks.whole(BLOB, 1, 2), Checks.whole(BLOB, 3));
        int n = pack.length;
        for (int change = 1; change < 256; change++) {
            int[] high = pack.clone();
            high[n - 2] = (high[n - 2] + change) % 256;
            answers("the hash's first byte", 1 - n, high);
            int[] low = pack.clone();
            low[n - 1] = (low[n - 1] + change) % 256;
            answers("the hash's second byte", -n, low);
        }
        int[] turned = pack.clone();
        turned[n - 2] = pack[n - 1];
        turned[n - 1] = pack[n - 2];
        faulty("the lower byte first", n - 2, turned);
        int[] both = pack.clone();
        both[n - 2] ^= 1;
        both[n - 1] ^= 1;
        faulty("both bytes wrong", n - 2, both);
        int[] last = pack.clone();
        last[n - 1] ^= 1;
        faulty("the second byte wrong", n - 1, last);
        for (int p = 0; p < n - 2; p++) {
            int[] changed = pack.clone();
            changed[p] ^= 1;
            Run x = new Run();
            Checks.due("byte " + p + " of a pack changed", Checks.receive(x, changed) < 0, true);
        }
        hashesAtTheEdges();
    }

    /** Packs whose hash is the lowest or the highest one, or has a byte 0 or 255. */
    private static void hashesAtTheEdges() {
        int[] edges = {0, 1, 255, 256, 65280, 65519, 65520};
        for (int hash : edges) {
            int[] found = null;
            for (int i = 0; i < 1 << 20 && found == null; i++) {
                int[] bytes = {80, 1, 1, 52, 3, i >> 16, (i >> 8) & 255, i & 255, 7};
                found = Checks.hash(bytes) == hash ? bytes : null;
            }
            Run x = Checks.busy();
            Checks.due("a pack of the hash " + hash, Checks.receive(x, Checks.join(found, Checks.two(hash))), 1);
        }
    }

    /** "and no byte behind it" */
    private static void noByteBehind() {
        int[] pack = Checks.pack(Checks.whole(BLOB, 1, 2));
        for (int b = 0; b < 256; b++) {
            answers("a byte behind", -1 - pack.length, Checks.join(pack, Checks.row(b)));
        }
        faulty("one byte behind", pack.length, Checks.join(pack, Checks.row(0)));
        faulty("a pack behind", pack.length, Checks.join(pack, pack));
        faulty("as many as there is room for", pack.length, Arrays.copyOf(pack, ROOM));
        brings("none behind", 1, Checks.whole(BLOB, 1, 2));
    }

    /** A pack that takes the whole buffer, one that would take a byte more, and one of a byte less. */
    private static void fullBuffer() {
        int[][] entries = new int[10][];
        for (int i = 0; i < 9; i++) {
            entries[i] = inSingles(i, 24);
        }
        // 3 bytes before, 9 times 50 bytes, and 2 behind: 45 are left.
        entries[9] = inSingles(9, 19);
        brings("a pack of 500 bytes", 10, entries);
        int[] full = Checks.pack(entries);
        Checks.due("its length", full.length, ROOM);
        faulty("its first 499 bytes", ROOM - 1, Arrays.copyOf(full, ROOM - 1));
        int[] wrong = full.clone();
        wrong[ROOM - 1] ^= 1;
        faulty("its last byte wrong", ROOM - 1, wrong);
        entries[9] = inSingles(9, 20);
        faulty("a pack of 501 bytes", ROOM, Arrays.copyOf(Checks.pack(entries), ROOM));
        entries[9] = inSingles(9, 18);
        brings("a pack of 499 bytes", 10, entries);
        faulty("a pack of 499 bytes and one", ROOM - 1, Arrays.copyOf(Checks.pack(entries), ROOM));
    }

    /** A blob of 24 bytes, packed in so many runs, of which all but the last have one byte. */
    private static int[] inSingles(int first, int runs) {
        int[] entry = Checks.head(BLOB, 24);
        for (int i = 0; i < runs - 1; i++) {
            entry = Checks.join(entry, Checks.row(0, first + i));
        }
        return Checks.join(entry, Checks.plain(Checks.rising(first + runs - 1, 25 - runs)));
    }

    /** "The client reads the buffer (which stays)" */
    private static void bufferStays() {
        Run x = Checks.busy();
        int[] pack = Checks.pack(Checks.whole(BLOB, 1, 2), Checks.whole(BLOB, 4));
        Checks.due("receive", Checks.receive(x, pack), 2);
        Checks.due("the buffer", Checks.buffer(x), pack);
        x.idle("receive again", 0, PackStore::receive);
        Checks.due("forget", x.forget(), 6);
        Checks.due("receive after forget", x.receive(), 2);
        Checks.due("the server's objects", x.count(0), 4);
        Checks.due("the ref", x.ref(1), -1);
        Checks.due("what is wanted and not had", x.serve(), 2);
    }
}
