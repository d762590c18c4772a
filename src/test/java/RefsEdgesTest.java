/** Promises 8 to 11 at their edges: one test for each sentence of the document that names one. */
public final class RefsEdgesTest {
    private static final int MIN = Integer.MIN_VALUE;
    private static final int MAX = Integer.MAX_VALUE;
    private static final int[] WRONG_REFS = {-1, 4, 5, 256, MIN, MAX};

    private static final int BLOB = Checks.id(Checks.BLOB, 1, 2, 3);
    private static final int TREE = Checks.id(Checks.TREE, Checks.part(5, BLOB));
    private static final int FIRST = Checks.id(Checks.COMMIT, Checks.commit(TREE, 1));
    private static final int SECOND = Checks.id(Checks.COMMIT, Checks.commit(TREE, 2, FIRST));

    public static void main(String[] args) {
        pointLeads();
        pointWrongRef();
        pointToNoCommit();
        refOfNone();
        refWrong();
        wantedAgain();
        wantWithoutRef();
        wantAtEdgesOfIds();
        wantOfAllCommits();
        hadWhetherHeldOrNot();
        atMostEightHaves();
        hadAlready();
        Checks.end();
    }

    /** "Ref r leads to the object with that ID from now on" */
    private static void pointLeads() {
        for (int r = 0; r < 4; r++) {
            Run x = Checks.busy();
            int[] due = {FIRST, -1, SECOND, -1};
            Checks.due("point " + r, x.point(r, FIRST), true);
            due[r] = FIRST;
            Checks.due("the refs", refs(x), due);
            Checks.due("point elsewhere " + r, x.point(r, SECOND), true);
            due[r] = SECOND;
            Checks.due("the refs then", refs(x), due);
        }
        Checks.busy().idle("point to where it leads already", 1, y -> y.point(0, FIRST) ? 1 : 0);
    }

    private static int[] refs(Run x) {
        return Checks.row(x.ref(0), x.ref(1), x.ref(2), x.ref(3));
    }

    /** "false if r is not 0 .. 3" */
    private static void pointWrongRef() {
        for (int r : WRONG_REFS) {
            Checks.busy().refuses("point of ref " + r, y -> y.point(r, FIRST));
        }
    }

    /** "or the server holds no commit of that ID" */
    private static void pointToNoCommit() {
        Run fresh = new Run();
        int[] ids = {BLOB, TREE, FIRST - 1, FIRST + 1, FIRST + 65536, FIRST - 65536, FIRST + 65521, -1, 0, 65520, MIN, MAX};
        for (int id : ids) {
            for (int i = 0; i < 4; i++) {
                int r = i;
                Checks.busy().refuses("point to " + id, y -> y.point(r, id));
                fresh.refuses("point to " + id + " on an empty server", y -> y.point(r, id));
            }
        }
        Run x = new Run();
        int[] commit = Checks.commit(TREE, 1);
        Checks.due("receive", Checks.receive(x, Checks.pack(Checks.whole(Checks.COMMIT, commit))), 1);
        x.refuses("point to a commit of the client", y -> y.point(0, FIRST));
    }

    /** "The ID to which ref r leads; -1 if it leads to none" */
    private static void refOfNone() {
        Run x = Checks.busy();
        x.idle("ref 0", FIRST, y -> y.ref(0));
        x.idle("ref 1", -1, y -> y.ref(1));
        x.idle("ref 2", SECOND, y -> y.ref(2));
        x.idle("ref 3", -1, y -> y.ref(3));
    }

    /** "or there is no such ref." */
    private static void refWrong() {
        Run x = Checks.busy();
        x.point(1, FIRST);
        x.point(3, FIRST);
        for (int r : WRONG_REFS) {
            x.idle("ref " + r, -1, y -> y.ref(r));
        }
    }

    /** "The object is wanted (also if it is already)" */
    private static void wantedAgain() {
        Checks.busy().idle("a want of what is wanted", 1, y -> y.want(SECOND) ? 1 : 0);
        Run x = Checks.busy();
        for (int i = 0; i < 40; i++) {
            Checks.due("a want again", x.want(SECOND), true);
            Checks.due("a want of the other again", x.want(FIRST), true);
        }
        Checks.due("served once each, less the tree", x.serve(), 2);
    }

    /** "false if no ref leads to that ID." */
    private static void wantWithoutRef() {
        int[] ids = {BLOB, TREE, FIRST - 1, FIRST + 1, FIRST + 65536, FIRST - 65536, -1, 0, 65520, MIN, MAX};
        for (int id : ids) {
            Checks.busy().refuses("a want of " + id, y -> y.want(id));
        }
        Run x = Checks.busy();
        x.point(0, SECOND);
        x.refuses("a want of what no ref leads to any more", y -> y.want(FIRST));
        x.point(3, FIRST);
        Checks.due("a want of what the last ref leads to", x.want(FIRST), true);
        Run y = new Run();
        Checks.store(y, Checks.BLOB, 1, 2, 3);
        Checks.store(y, Checks.TREE, Checks.part(5, BLOB));
        Checks.store(y, Checks.COMMIT, Checks.commit(TREE, 1));
        y.refuses("a want without any ref", z -> z.want(FIRST));
        y.refuses("a want of -1 without any ref", z -> z.want(-1));
        Run stays = Checks.busy();
        stays.point(2, FIRST);
        Checks.due("a want stays when its ref leads elsewhere", stays.serve(), 2);
    }

    /** The same sentences for the lowest and the highest ID that a commit can have. */
    private static void wantAtEdgesOfIds() {
        int[] edges = {0, 65520};
        for (int id : edges) {
            Run x = new Run();
            Checks.storeCommitOfId(x, id);
            x.refuses("a want of " + id + " before a ref leads to it", y -> y.want(id));
            Checks.due("point", x.point(1, id), true);
            Checks.due("ref", x.ref(1), id);
            Checks.due("the ref before it leads to none", x.ref(0), -1);
            Checks.due("a want of " + id, x.want(id), true);
            Checks.due("serve", x.serve(), 3);
            Checks.due("a want of it", x.want(id), true);
            Checks.due("a have of it", x.have(id), true);
            Checks.due("nothing is left", x.serve(), 0);
        }
    }

    /** There is no most of wants: a server of 16 objects may have 15 commits, and all may be wanted at once. */
    private static void wantOfAllCommits() {
        Run x = new Run();
        int tree = x.store(Checks.TREE);
        for (int i = 0; i < 15; i++) {
            int commit = Checks.store(x, Checks.COMMIT, Checks.commit(tree, i));
            Checks.due("point", x.point(i % 4, commit), true);
            Checks.due("want " + i, x.want(commit), true);
        }
        Checks.due("all of them and the tree", x.serve(), 16);
        Checks.due("none is wanted any more", x.serve(), -1);
    }

    /** "The object is had (whether the server holds one of that ID or not)" */
    private static void hadWhetherHeldOrNot() {
        int[] ids = {BLOB, FIRST, 0, 65520, 65521, 65535, 65536, -1, MIN, MAX};
        for (int id : ids) {
            Run x = Checks.busy();
            Checks.due("have " + id, x.have(id), true);
            x.refuses("have " + id + " again", y -> y.have(id));
        }
        Run x = Checks.busy();
        x.have(FIRST);
        Checks.due("what is had is not served", x.serve(), 1);
        Run y = Checks.busy();
        y.have(FIRST + 65536);
        y.have(FIRST - 65536);
        Checks.due("what nobody holds takes nothing away", y.serve(), 2);
    }

    /** "false if there are 8 haves" */
    private static void atMostEightHaves() {
        Run x = new Run();
        for (int i = 1; i <= 8; i++) {
            Checks.due("have number " + i, x.have(i), true);
        }
        x.refuses("a ninth", y -> y.have(9));
        x.refuses("-1 as the ninth", y -> y.have(-1));
        x.refuses("0 as the ninth", y -> y.have(0));
        Run busy = Checks.busy();
        for (int i = 3; i <= 7; i++) {
            Checks.due("have number " + i, busy.have(i), true);
        }
        Checks.due("the eighth counts too", busy.have(FIRST), true);
        busy.refuses("a ninth that the server holds", y -> y.have(SECOND));
        Checks.due("serve", busy.serve(), 1);
        for (int i = 1; i <= 8; i++) {
            Checks.due("room again for number " + i, busy.have(i), true);
        }
        busy.refuses("a ninth again", y -> y.have(9));
    }

    /** "or that ID is one already." */
    private static void hadAlready() {
        Checks.busy().refuses("the first", y -> y.have(TREE));
        Checks.busy().refuses("the last", y -> y.have(70000));
        Run x = new Run();
        int[] ids = {0, -1, 65535, 65536, MIN, MAX, 7, 8};
        for (int id : ids) {
            Checks.due("have " + id, x.have(id), true);
            x.refuses("have " + id + " again", y -> y.have(id));
        }
        for (int id : ids) {
            x.refuses("have " + id + " of eight", y -> y.have(id));
        }
    }
}
