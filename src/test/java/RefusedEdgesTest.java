/** "A call that is refused changes nothing.": each way to be refused, all on one object, busy, new or full. */
public final class RefusedEdgesTest {
    private static final int BLOB = Checks.BLOB;

    public static void main(String[] args) {
        busy();
        fresh();
        full();
        Checks.end();
    }

    private static void refusedAnyway(Run x) {
        x.refuses("put of no byte", y -> y.put(1, 0));
        x.refuses("put of five bytes", y -> y.put(1, 5));
        x.refuses("set before the first byte", y -> y.set(-1, 1));
        x.refuses("set of what is no byte", y -> y.set(0, 256));
        x.refuses("cut below 0", y -> y.cut(-1));
        x.refuses("cut to more than there can be", y -> y.cut(501));
        x.idle("store of no kind", -1, y -> y.store(0));
        x.idle("store of a kind too many", -1, y -> y.store(4));
        x.refuses("point of no ref", y -> y.point(4, 1));
        x.refuses("point to no object", y -> y.point(0, -1));
        x.refuses("want of no object", y -> y.want(-1));
    }

    private static void busy() {
        Run x = Checks.busy();
        refusedAnyway(x);
        x.refuses("set behind the last byte", y -> y.set(3, 1));
        x.refuses("cut to more than there are", y -> y.cut(4));
        x.idle("store of a commit of nothing", -1, y -> y.store(1));
        x.idle("store of a tree of nothing", -1, y -> y.store(2));
        int tree = Checks.id(Checks.TREE, Checks.part(5, Checks.id(BLOB, 1, 2, 3)));
        x.refuses("point to a tree", y -> y.point(0, tree));
        x.refuses("want of a tree", y -> y.want(tree));
        x.refuses("have of what is had", y -> y.have(tree));
        x.idle("receive of what is no pack", -1, PackStore::receive);
        receives(x);
        Checks.due("what is wanted and not had", x.serve(), 2);
        Checks.due("the client gets one of them", x.receive(), 1);
    }

    private static void receives(Run x) {
        Checks.fill(x, Checks.pack(Checks.whole(BLOB, 200), Checks.byId(9, 0, 0)));
        x.idle("receive without a base", -1000, PackStore::receive);
        Checks.fill(x, Checks.pack(Checks.whole(BLOB, 200), Checks.whole(Checks.COMMIT)));
        x.idle("receive of what is not well formed", -1001, PackStore::receive);
        Checks.fill(x, Checks.pack(Checks.whole(BLOB, 0, 2, 14), Checks.whole(BLOB, 1, 0, 0)));
        x.idle("receive of two of one ID", -1001, PackStore::receive);
    }

    private static void fresh() {
        Run x = new Run();
        refusedAnyway(x);
        x.refuses("set in an empty buffer", y -> y.set(0, 1));
        x.refuses("cut of an empty buffer", y -> y.cut(1));
        x.idle("store of an empty commit", -1, y -> y.store(1));
        x.idle("serve", -1, PackStore::serve);
        x.idle("receive", -1, PackStore::receive);
        receives(x);
    }

    /** Buffer, server, client and haves have no room left. */
    private static void full() {
        Run x = new Run();
        for (int i = 0; i < 15; i++) {
            Checks.due("store", Checks.store(x, BLOB, i), Checks.id(BLOB, i));
        }
        Checks.due("store", Checks.store(x, Checks.TREE), Checks.id(Checks.TREE));
        for (int first = 0; first < 24; first += 8) {
            int[][] entries = new int[8][];
            for (int i = 0; i < 8; i++) {
                entries[i] = Checks.whole(BLOB, 100 + first + i);
            }
            Checks.due("receive", Checks.receive(x, Checks.pack(entries)), 8);
        }
        for (int i = 0; i < 8; i++) {
            Checks.due("have", x.have(i), true);
        }
        refusedAnyway(x);
        x.refuses("a ninth have", y -> y.have(8));
        Checks.fill(x, Checks.pack(Checks.whole(BLOB, 200)));
        x.idle("receive of one more", -1002, PackStore::receive);
        receives(x);
        Checks.fill(x, 200);
        x.idle("store of one more", -1, y -> y.store(3));
        x.idle("serve", -1, PackStore::serve);
        Checks.fill(x, Checks.times(500, 80));
        x.refuses("put in a full buffer", y -> y.put(1, 1));
        x.refuses("set behind a full buffer", y -> y.set(500, 1));
        x.idle("store of a full buffer", -1, y -> y.store(3));
        x.idle("receive of a full buffer", -2, PackStore::receive);
        Checks.due("forget", x.forget(), 24);
        Checks.due("receive", Checks.receive(x, Checks.pack(Checks.whole(BLOB, 200))), 1);
    }
}
