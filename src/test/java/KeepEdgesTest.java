import java.util.Arrays;

/** Promises 13 and 14, what comes of a pack, at their edges: one test for each sentence that names one. */
public final class KeepEdgesTest {
    private static final int COMMIT = Checks.COMMIT;
    private static final int TREE = Checks.TREE;
    private static final int BLOB = Checks.BLOB;
    private static final int[] FIVE = {11, 12, 13, 14, 15};
    private static final int[] MOST = Checks.rising(100, 24);
    private static final int NOT_WORKED_OUT = -1000;
    private static final int NOT_SOUND = -1001;
    private static final int TOO_MANY = -1002;

    public static void main(String[] args) {
        roundsUntilNothingNew();
        baseNotThere();
        firstOfThePackElseTheClients();
        kindOfTheBase();
        numbersOfBytes();
        stepsBehindTheEnd();
        zeroInPlaceOfAStep();
        putSteps();
        placesOutsideOfTheBase();
        otherNumberOfBytesPut();
        moreThan24Bytes();
        differenceWithoutNumbers();
        notWellFormed();
        idOfAnotherOfThePack();
        idOfAnotherOfTheClient();
        moreThan24Objects();
        orderOfTheAnswers();
        keepsWhatItDoesNotHold();
        forgetFromNoneToAll();
        Checks.end();
    }

    /** The answer, behind which nothing has changed. */
    private static void refuses(String what, Run x, int due, int[]... entries) {
        Checks.fill(x, Checks.pack(entries));
        x.idle(what, due, PackStore::receive);
    }

    private static void refuses(String what, int due, int[]... entries) {
        refuses(what, Checks.busy(), due, entries);
    }

    /** So many objects are kept. */
    private static void keeps(String what, Run x, int due, int[]... entries) {
        int before = (int) x.aside(y -> y.count(1));
        int[] pack = Checks.pack(entries);
        Checks.due(what, Checks.receive(x, pack), due);
        Checks.due(what + ": the buffer", Checks.buffer(x), pack);
        Checks.due(what + ": count", x.count(1), before + due);
    }

    private static void keeps(String what, int due, int[]... entries) {
        keeps(what, Checks.busy(), due, entries);
    }

    /** The difference from the base leads to the content, by either sort. */
    private static void leads(String what, int[] base, int[] content, int... difference) {
        int[] first = Checks.whole(BLOB, base);
        int[][] seconds = {Checks.byBack(first.length, difference), Checks.byId(Checks.id(BLOB, base), difference)};
        for (int[] second : seconds) {
            Run x = Checks.busy();
            keeps(what, x, Arrays.equals(base, content) ? 1 : 2, first, second);
            int id = Checks.id(BLOB, content);
            Checks.due(what + ": kind", x.kind(1, id), BLOB);
            Checks.due(what + ": length", x.length(1, id), content.length);
            Checks.due(what + ": content", Checks.content(x, 1, id), content);
        }
    }

    /** The difference is none from the base, by either sort. */
    private static void leadsNowhere(String what, int[] base, int... difference) {
        int[] first = Checks.whole(BLOB, base);
        String text = what + " " + Arrays.toString(difference);
        refuses(text, NOT_WORKED_OUT, first, Checks.byBack(first.length, difference));
        refuses(text, NOT_WORKED_OUT, first, Checks.byId(Checks.id(BLOB, base), difference));
        Run x = Checks.busy();
        keeps("the base", x, 1, first);
        refuses(text, x, NOT_WORKED_OUT, Checks.byId(Checks.id(BLOB, base), difference));
    }

    /** "in rounds over the entries in their order, until a round brings nothing new" */
    private static void roundsUntilNothingNew() {
        for (int n = 1; n <= 16; n++) {
            int[][] entries = chain(n);
            keeps("a chain of " + n + " from its end", n, entries);
            int[][] turned = new int[n][];
            for (int i = 0; i < n; i++) {
                turned[i] = entries[n - 1 - i];
            }
            keeps("a chain of " + n + " from its beginning", n, turned);
            if (n > 1) {
                refuses("a chain of " + n + " without its beginning", NOT_WORKED_OUT, Arrays.copyOf(entries, n - 1));
            }
        }
    }

    /** n entries, each a difference from the one behind it; the last one is whole. */
    private static int[][] chain(int n) {
        int[][] entries = new int[n][];
        int[] content = {90};
        entries[n - 1] = Checks.whole(BLOB, content);
        for (int i = n - 2; i >= 0; i--) {
            int k = content.length;
            entries[i] = Checks.byId(Checks.id(BLOB, content), k, k + 1, 128 + k, 0, 1, 90 + k);
            content = Checks.join(content, Checks.row(90 + k));
        }
        return entries;
    }

    /** "-1000 if some entry is not in the end: its base is not there" */
    private static void baseNotThere() {
        int five = Checks.id(BLOB, FIVE);
        int[] piece = Checks.byId(five, 5, 1, 129, 0);
        refuses("the base is nowhere", NOT_WORKED_OUT, piece);
        refuses("good ones beside it", NOT_WORKED_OUT, Checks.whole(BLOB, 1), piece, Checks.whole(BLOB, 2));
        keeps("the base is before it", 2, Checks.whole(BLOB, FIVE), piece);
        keeps("the base is behind it", 2, piece, Checks.whole(BLOB, FIVE));
        Run x = Checks.busy();
        Checks.due("store", Checks.store(x, BLOB, FIVE), five);
        refuses("the base is the server's", x, NOT_WORKED_OUT, piece);
        keeps("the base comes to the client", x, 1, Checks.whole(BLOB, FIVE));
        keeps("the base is the client's", x, 1, piece);
        refuses("a base of its own", NOT_WORKED_OUT, Checks.byId(five, Checks.join(Checks.row(5, 5, 5), FIVE)));
        int[] other = Checks.byId(Checks.id(BLOB, 11), 1, 5, 5, 11, 12, 13, 14, 15);
        refuses("two that wait for one another", NOT_WORKED_OUT, piece, other);
        refuses("back to one that never is", NOT_WORKED_OUT, piece, Checks.byBack(piece.length, 1, 0));
    }

    /** "for sort 7 the first object of the pack with that ID that is worked out by then, else the client's" */
    private static void firstOfThePackElseTheClients() {
        int[] held = {0, 2, 14};
        int[] twin = {1, 0, 0};
        int id = Checks.id(BLOB, held);
        Checks.due("two contents of one ID", Checks.id(BLOB, twin), id);
        Run x = Checks.withClient(held);
        int[] last = Checks.byId(id, 3, 1, 129, 2);
        keeps("from the client's", x, 1, last);
        Checks.due("its last byte", x.kind(1, Checks.id(BLOB, 14)), BLOB);
        refuses("the pack's twin clashes", Checks.withClient(held), NOT_SOUND, Checks.whole(BLOB, twin), last);
        // A twin of another length: the difference fits only one of the two.
        int[] longer = Checks.withId(BLOB, 4, id);
        int[] ofFour = Checks.byId(id, 4, 1, 129, 2);
        refuses("fits the pack's alone", Checks.withClient(held), NOT_SOUND, Checks.whole(BLOB, longer), ofFour);
        refuses("fits the client's alone", Checks.withClient(held), NOT_WORKED_OUT, Checks.whole(BLOB, longer), last);
        refuses("fits neither", Checks.withClient(held), NOT_WORKED_OUT, ofFour);
        refuses("fits the first alone", NOT_SOUND, Checks.whole(BLOB, longer), Checks.whole(BLOB, held), ofFour);
        refuses("fits the second alone", NOT_WORKED_OUT, Checks.whole(BLOB, longer), Checks.whole(BLOB, held), last);
        int[] late = Checks.byId(Checks.id(BLOB), Checks.join(Checks.row(0, 4, 4), longer));
        refuses("fits one that is worked out before it", Checks.withClient(held), NOT_SOUND,
            Checks.whole(BLOB), late, ofFour);
        refuses("fits the client's before the pack's is worked out", Checks.withClient(held), NOT_SOUND,
            last, Checks.byId(Checks.id(BLOB, 14), Checks.join(Checks.row(1, 4, 4), longer)));
        refuses("fits the second until the first is worked out", NOT_SOUND,
            last, Checks.byId(Checks.id(BLOB, 14), Checks.join(Checks.row(1, 4, 4), longer)), Checks.whole(BLOB, held));
    }

    /** "(A difference has its base's kind.)" */
    private static void kindOfTheBase() {
        int[] two = Checks.join(Checks.part(1, 7), Checks.part(2, 8));
        int[] tree = Checks.whole(TREE, two);
        Run x = Checks.busy();
        keeps("a tree from a tree", x, 2, tree, Checks.byBack(tree.length, 6, 3, 131, 3));
        Checks.due("is a tree", x.kind(1, Checks.id(TREE, Checks.part(2, 8))), TREE);
        Checks.due("and no blob", x.kind(1, Checks.id(BLOB, Checks.part(2, 8))), 0);
        int[] commit = Checks.whole(COMMIT, 1, 2, 3);
        keeps("a commit from the pack's", x, 2, commit, Checks.byId(Checks.id(COMMIT, 1, 2, 3), 3, 3, 130, 0, 1, 4));
        Checks.due("is a commit", x.kind(1, Checks.id(COMMIT, 1, 2, 4)), COMMIT);
        keeps("a tree from the client's", x, 1, Checks.byId(Checks.id(TREE, two), 6, 0));
        Checks.due("is a tree too", x.kind(1, Checks.id(TREE)), TREE);
        refuses("a commit that is none then", NOT_SOUND, commit, Checks.byBack(commit.length, 3, 2, 130, 0));
    }

    /** "the difference is not one from it (the numbers of bytes" */
    private static void numbersOfBytes() {
        int[] bases = {0, 1, 5, 23, 24};
        for (int n : bases) {
            int[] base = Checks.rising(30, n);
            leads("the base's number " + n, base, Checks.row(9), n, 1, 1, 9);
            leadsNowhere("one more than " + n, base, n + 1, 1, 1, 9);
            leadsNowhere("one less than " + n, base, (n + 255) % 256, 1, 1, 9);
        }
        leads("the content's number", FIVE, Checks.row(11, 12), 5, 2, 130, 0);
        leadsNowhere("one more of the content", FIVE, 5, 3, 130, 0);
        leadsNowhere("one less of the content", FIVE, 5, 1, 130, 0);
        leadsNowhere("no content, but a step", FIVE, 5, 0, 130, 0);
        leadsNowhere("a content, but no step", FIVE, 5, 1);
        leads("no content", FIVE, Checks.row(), 5, 0);
        leads("nothing from nothing", Checks.row(), Checks.row(), 0, 0);
        leadsNowhere("the numbers turned", FIVE, 2, 5, 130, 0);
        leadsNowhere("255 said, and no step", Checks.row(), 0, 255);
    }

    /** "steps that go on behind its end" */
    private static void stepsBehindTheEnd() {
        leads("a put to the end", FIVE, Checks.row(8, 9), 5, 2, 2, 8, 9);
        leadsNowhere("a put of one more than is there", FIVE, 5, 2, 2, 8);
        leadsNowhere("a put of one more, by the number of what is there", FIVE, 5, 1, 2, 8);
        leadsNowhere("a put of nothing that is there", FIVE, 5, 1, 1);
        leadsNowhere("a put of 127", FIVE, 5, 1, 127, 8);
        leadsNowhere("a copy without its place", FIVE, 5, 2, 130);
        leadsNowhere("a copy without its place behind a step", FIVE, 5, 4, 130, 0, 130);
        leadsNowhere("a copy without its place, by the number before it", FIVE, 5, 2, 130, 0, 130);
        leadsNowhere("a put behind a step", FIVE, 5, 3, 130, 0, 1);
    }

    /** "a byte 0 or 128 in place of a step" */
    private static void zeroInPlaceOfAStep() {
        int[] wrong = {0, 128};
        for (int b : wrong) {
            leadsNowhere("alone", FIVE, 5, 0, b);
            leadsNowhere("with a byte", FIVE, 5, 0, b, 0);
            leadsNowhere("first", FIVE, 5, 2, b, 130, 0);
            leadsNowhere("first, with a byte", FIVE, 5, 2, b, 0, 130, 0);
            leadsNowhere("last", FIVE, 5, 2, 130, 0, b);
            leadsNowhere("last, with a byte", FIVE, 5, 2, 130, 0, b, 0);
            leadsNowhere("between", FIVE, 5, 4, 130, 0, b, 130, 0);
            leadsNowhere("between, with a byte", FIVE, 5, 4, 130, 0, b, 0, 130, 0);
        }
        leads("1 in its place", FIVE, Checks.row(11, 12, 0), 5, 3, 130, 0, 1, 0);
        leads("129 in its place", FIVE, Checks.row(11, 12, 11), 5, 3, 130, 0, 129, 0);
        leads("0 and 128 as bytes put", FIVE, Checks.row(0, 128), 5, 2, 2, 0, 128);
    }

    /** "a byte c 1 .. 127, and then c bytes that are put" */
    private static void putSteps() {
        for (int n = 1; n <= 24; n++) {
            int[] content = Checks.rising(60, n);
            leads("a put of " + n, FIVE, content, Checks.join(Checks.row(5, n, n), content));
        }
        int[] singles = {5, 24};
        for (int i = 0; i < 24; i++) {
            singles = Checks.join(singles, Checks.row(1, 60 + i));
        }
        leads("24 puts", FIVE, Checks.rising(60, 24), singles);
        leads("puts and copies", FIVE, Checks.row(7, 13, 14, 8, 9, 11), 5, 6, 1, 7, 130, 2, 2, 8, 9, 129, 0);
    }

    /** "places outside of the base"; "a byte 128 + n, n 1 .. 127, and a place: the n bytes of the base from there on" */
    private static void placesOutsideOfTheBase() {
        for (int n = 1; n <= 5; n++) {
            for (int place = 0; place < 256; place++) {
                String what = "a copy of " + n + " from " + place;
                if (place + n <= 5) {
                    leads(what, FIVE, Arrays.copyOfRange(FIVE, place, place + n), 5, n, 128 + n, place);
                } else if (place < 8 || place > 250 || place == 128) {
                    leadsNowhere(what, FIVE, 5, n, 128 + n, place);
                }
            }
        }
        leadsNowhere("one more than the base has", FIVE, 5, 6, 134, 0);
        leads("all of 24", MOST, MOST, 24, 24, 152, 0);
        leads("the last of 24", MOST, Checks.row(123), 24, 1, 129, 23);
        leadsNowhere("behind the last of 24", MOST, 24, 1, 129, 24);
        leadsNowhere("25 of 24", MOST, 24, 25, 153, 0);
        leadsNowhere("127 of 24", MOST, 24, 127, 255, 0);
        leadsNowhere("one of an empty base", Checks.row(), 0, 1, 129, 0);
    }

    /** "another number of bytes put" */
    private static void otherNumberOfBytesPut() {
        for (int said = 0; said < 256; said++) {
            if (said == 3) {
                leads("as many as said", FIVE, Checks.row(11, 12, 9), 5, 3, 130, 0, 1, 9);
            } else if (said < 8 || said > 250 || said % 64 == 3) {
                leadsNowhere("three, not " + said, FIVE, 5, said, 130, 0, 1, 9);
            }
        }
    }

    /** "or one of more than 24 bytes" */
    private static void moreThan24Bytes() {
        int[] piece = Checks.rising(60, 23);
        leads("23 bytes put", FIVE, piece, Checks.join(Checks.row(5, 23, 23), piece));
        int[] most = Checks.rising(60, 24);
        leads("24 bytes put", FIVE, most, Checks.join(Checks.row(5, 24, 24), most));
        int[] more = Checks.rising(60, 25);
        leadsNowhere("25 bytes put", FIVE, Checks.join(Checks.row(5, 25, 25), more));
        leadsNowhere("25 bytes put, 24 said", FIVE, Checks.join(Checks.row(5, 24, 25), more));
        leadsNowhere("24 bytes and one", FIVE, Checks.join(Checks.row(5, 25, 24), most, Checks.row(1, 9)));
        leads("24 bytes copied", FIVE, Checks.join(FIVE, FIVE, FIVE, FIVE, Checks.row(11, 12, 13, 14)),
            5, 24, 133, 0, 133, 0, 133, 0, 133, 0, 132, 0);
        leadsNowhere("25 bytes copied", FIVE, 5, 25, 133, 0, 133, 0, 133, 0, 133, 0, 133, 0);
        leadsNowhere("24 bytes copied and one put", FIVE, 5, 25, 133, 0, 133, 0, 133, 0, 133, 0, 132, 0, 1, 9);
        leadsNowhere("48 bytes", MOST, 24, 48, 152, 0, 152, 0);
        leadsNowhere("127 bytes", MOST, Checks.join(Checks.row(24, 127, 127), Checks.rising(0, 125)));
    }

    /** A difference begins with two numbers: one of no bytes, or of one, is none. */
    private static void differenceWithoutNumbers() {
        leadsNowhere("no bytes", FIVE);
        leadsNowhere("the base's number alone", FIVE, 5);
        leadsNowhere("no bytes from an empty base", Checks.row());
        leadsNowhere("one number from an empty base", Checks.row(), 0);
    }

    /** "Then -1001 if an object is not well formed" */
    private static void notWellFormed() {
        for (int n = 0; n <= 24; n++) {
            int[] content = new int[n];
            for (int i = 0; i < n; i += 3) {
                content[i] = i;
            }
            if (n == 3 || n == 5 || n == 7) {
                keeps("a commit of " + n, 1, Checks.whole(COMMIT, content));
            } else {
                refuses("a commit of " + n, NOT_SOUND, Checks.whole(COMMIT, content));
            }
            if (n % 3 == 0) {
                keeps("a tree of " + n, 1, Checks.whole(TREE, content));
            } else {
                refuses("a tree of " + n, NOT_SOUND, Checks.whole(TREE, content));
            }
            keeps("a blob of " + n, 1, Checks.whole(BLOB, content));
        }
        keeps("names 254 and 255", 1, Checks.whole(TREE, Checks.join(Checks.part(254, 9), Checks.part(255, 9))));
        refuses("a name twice", NOT_SOUND, Checks.whole(TREE, Checks.join(Checks.part(255, 8), Checks.part(255, 9))));
        int[] falling = Checks.join(Checks.part(1, 9), Checks.part(0, 9));
        refuses("falling names", NOT_SOUND, Checks.whole(TREE, falling));
        refuses("falling at last", NOT_SOUND, Checks.whole(TREE, Checks.join(Checks.part(1, 9), Checks.part(3, 9), Checks.part(2, 9))));
        refuses("the last of the pack", NOT_SOUND, Checks.whole(BLOB, 1), Checks.whole(BLOB, 2), Checks.whole(TREE, falling));
        refuses("the first of the pack", NOT_SOUND, Checks.whole(TREE, falling), Checks.whole(BLOB, 1));
        int[] tree = Checks.whole(TREE, Checks.part(1, 1));
        refuses("by a difference", NOT_SOUND, tree, Checks.byBack(tree.length, 3, 2, 130, 0));
        keeps("names that nobody holds", 1, Checks.whole(COMMIT, 255, 255, 255, 255, 0));
    }

    /** "or has the ID of another one of the pack ... that has another kind or content" */
    private static void idOfAnotherOfThePack() {
        int[] one = Checks.whole(BLOB, 0, 2, 14);
        int[] twin = Checks.whole(BLOB, 1, 0, 0);
        int id = Checks.id(BLOB, 0, 2, 14);
        int[] longer = Checks.whole(BLOB, Checks.withId(BLOB, 5, id));
        int[] tree = Checks.whole(TREE, Checks.withId(TREE, 3, id));
        int[][] others = {twin, longer, tree};
        for (int[] other : others) {
            refuses("one behind the other", NOT_SOUND, one, other);
            refuses("one before the other", NOT_SOUND, other, one);
            refuses("far from one another", NOT_SOUND, one, Checks.whole(BLOB, 5), Checks.whole(BLOB, 6), other);
        }
        int[] shorter = Checks.whole(BLOB, 7);
        int[] goesOn = Checks.whole(BLOB, Checks.longerTwin(7));
        refuses("one that goes on behind the other", NOT_SOUND, shorter, goesOn);
        refuses("one that ends before the other", NOT_SOUND, goesOn, shorter);
        keeps("the same one twice", 1, one, one);
        keeps("the same one, once as a difference", 1, one, Checks.byBack(one.length, 3, 3, 131, 0));
        refuses("another one as a difference", NOT_SOUND, one, Checks.byBack(one.length, 3, 3, 3, 1, 0, 0));
    }

    /** "or of the client that has another kind or content" */
    private static void idOfAnotherOfTheClient() {
        int[] held = {0, 2, 14};
        int id = Checks.id(BLOB, held);
        refuses("another content", Checks.withClient(held), NOT_SOUND, Checks.whole(BLOB, 1, 0, 0));
        refuses("another length", Checks.withClient(held), NOT_SOUND, Checks.whole(BLOB, Checks.withId(BLOB, 5, id)));
        refuses("another kind", Checks.withClient(held), NOT_SOUND, Checks.whole(TREE, Checks.withId(TREE, 3, id)));
        refuses("behind a good one", Checks.withClient(Checks.row(4), held), NOT_SOUND,
            Checks.whole(BLOB, 5), Checks.whole(BLOB, 1, 0, 0));
        int[] longer = Checks.longerTwin(held);
        refuses("one that goes on behind it", Checks.withClient(held), NOT_SOUND, Checks.whole(BLOB, longer));
        refuses("one that ends before it", Checks.withClient(longer), NOT_SOUND, Checks.whole(BLOB, held));
        keeps("the same one", Checks.withClient(held), 0, Checks.whole(BLOB, held));
        Run server = Checks.busy();
        Checks.due("store", Checks.store(server, BLOB, held), id);
        keeps("another one of the server", server, 1, Checks.whole(BLOB, 1, 0, 0));
        Checks.due("the server's stays", Checks.content(server, 0, id), held);
        Checks.due("the client's is another", Checks.content(server, 1, id), 1, 0, 0);
    }

    /** A client that holds n blobs of one byte. */
    private static Run holding(int n) {
        Run x = new Run();
        for (int i = 0; i < n; i += 12) {
            int[][] entries = new int[Math.min(12, n - i)][];
            for (int k = 0; k < entries.length; k++) {
                entries[k] = Checks.whole(BLOB, i + k);
            }
            keeps("filling", x, entries.length, entries);
        }
        return x;
    }

    /** Entries of n blobs that holding does not give. */
    private static int[][] fresh(int n) {
        int[][] entries = new int[n][];
        for (int i = 0; i < n; i++) {
            entries[i] = Checks.whole(BLOB, 100 + i);
        }
        return entries;
    }

    /** "Then -1002 if the client would hold more than 24."; "the client at most 24" */
    private static void moreThan24Objects() {
        for (int held = 8; held <= 24; held++) {
            int room = 24 - held;
            if (room > 0) {
                keeps(room + " for " + held, holding(held), room, fresh(room));
            }
            if (room < 16) {
                refuses(room + 1 + " for " + held, holding(held), TOO_MANY, fresh(room + 1));
            }
        }
        int[] old = Checks.whole(BLOB, 3);
        int[] one = Checks.whole(BLOB, 100);
        int[] two = Checks.whole(BLOB, 101);
        for (int i = 0; i < 24; i++) {
            keeps("one that is held in a full client", holding(24), 0, Checks.whole(BLOB, i));
        }
        keeps("one that is held, twice, in a full client", holding(24), 0, old, old);
        keeps("one twice, and one that is held", holding(23), 1, one, old, one);
        refuses("two, and one that is held", holding(23), TOO_MANY, one, old, two);
        refuses("one in a full client", holding(24), TOO_MANY, one);
        refuses("one as a difference in a full client", holding(24), TOO_MANY,
            Checks.byId(Checks.id(BLOB, 3), 1, 1, 1, 100));
        Run x = holding(24);
        Checks.due("forget", x.forget(), 24);
        keeps("16 after forget", x, 16, fresh(16));
        Run server = Checks.busy();
        for (int i = 0; i < 12; i++) {
            Checks.due("store", Checks.store(server, BLOB, i), Checks.id(BLOB, i));
        }
        keeps("16 with a full server", server, 16, fresh(16));
    }

    /** "Only then"; "Then -1001"; "Then -1002" */
    private static void orderOfTheAnswers() {
        int[] bad = Checks.whole(COMMIT);
        int[] lost = Checks.byId(9, 0, 0);
        int[] one = Checks.whole(BLOB, 100);
        refuses("no base, before not well formed", NOT_WORKED_OUT, bad, lost);
        refuses("no base, behind not well formed", NOT_WORKED_OUT, lost, bad);
        refuses("no base, and too many", holding(24), NOT_WORKED_OUT, one, lost);
        refuses("not well formed, and too many", holding(24), NOT_SOUND, one, bad);
        refuses("a clash, and too many", holding(24), NOT_SOUND, one, Checks.whole(BLOB, 0, 2, 14), Checks.whole(BLOB, 1, 0, 0));
        int[][] packs = {Checks.pack(bad), Checks.pack(lost), Checks.pack(one)};
        for (int[] pack : packs) {
            int n = pack.length;
            pack[n - 1] ^= 1;
            Run x = holding(24);
            Checks.fill(x, pack);
            x.idle("a wrong hash before all that", -n, PackStore::receive);
            Run y = holding(24);
            Checks.fill(y, Checks.join(Checks.sealed(Arrays.copyOf(pack, n - 2)), Checks.row(0)));
            y.idle("a byte behind before all that", -1 - n, PackStore::receive);
        }
    }

    /** "Otherwise it keeps them, those that it does not hold already"; "how many objects it did not hold already" */
    private static void keepsWhatItDoesNotHold() {
        Run x = Checks.busy();
        int[] one = Checks.whole(BLOB, 100);
        int[] old = Checks.whole(BLOB, 65, 66, 67);
        keeps("one that is held", x, 0, old);
        keeps("one that is held and one that is not", x, 1, old, one);
        keeps("both again", x, 0, one, old);
        keeps("one that is new three times", x, 1, Checks.whole(BLOB), Checks.whole(BLOB), Checks.whole(BLOB));
        Checks.due("its length", x.length(1, 4467), 0);
        int[][] same = new int[16][];
        Arrays.fill(same, Checks.whole(TREE));
        keeps("one 16 times", x, 1, same);
        Checks.due("the server's objects", x.count(0), 4);
    }

    /** "The client's objects are gone; how many there were." */
    private static void forgetFromNoneToAll() {
        for (int n = 0; n <= 24; n++) {
            Run x = holding(n);
            Checks.due("forget of " + n, x.forget(), n);
            Checks.due("count", x.count(1), 0);
            for (int i = 0; i < n; i++) {
                Checks.due("one that is gone", x.kind(1, Checks.id(BLOB, i)), 0);
            }
            x.idle("forget again", 0, PackStore::forget);
        }
        Run x = Checks.busy();
        int[] buffer = Checks.buffer(x);
        Checks.due("forget", x.forget(), 4);
        Checks.due("the buffer", Checks.buffer(x), buffer);
        Checks.due("the server's objects", x.count(0), 4);
        Checks.due("a ref", x.ref(0) >= 0, true);
        Checks.due("what is wanted and not had", x.again().serve(), 2);
        refuses("a base that is gone", x, NOT_WORKED_OUT, Checks.byId(Checks.id(BLOB, 65, 66, 67), 3, 1, 129, 0));
        Run twin = Checks.withClient(Checks.row(0, 2, 14));
        twin.forget();
        keeps("one of an ID that is gone", twin, 1, Checks.whole(BLOB, 1, 0, 0));
    }
}
