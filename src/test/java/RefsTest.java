/** Promises 8 to 11: refs, wants and haves. */
public final class RefsTest {
    public static void main(String[] args) {
        pointing();
        wanting();
        having();
        Checks.end();
    }

    private static void pointing() {
        Run x = new Run();
        int blob = Checks.store(x, Checks.BLOB, 1);
        int tree = Checks.store(x, Checks.TREE);
        int first = Checks.store(x, Checks.COMMIT, Checks.commit(tree, 1));
        int second = Checks.store(x, Checks.COMMIT, Checks.commit(tree, 2));
        int[] wrong = {-1, 4, Integer.MIN_VALUE, Integer.MAX_VALUE};
        for (int r : wrong) {
            Checks.due("point of ref " + r, x.point(r, first), false);
            Checks.due("ref " + r, x.ref(r), -1);
        }
        Checks.due("point to a blob", x.point(0, blob), false);
        Checks.due("point to a tree", x.point(0, tree), false);
        Checks.due("point to none", x.point(0, first + second + 1), false);
        Checks.due("point to -1", x.point(0, -1), false);
        Checks.due("ref 0 leads to none", x.ref(0), -1);
        for (int r = 0; r < 4; r++) {
            Checks.due("point " + r, x.point(r, first), true);
            Checks.due("ref " + r, x.ref(r), first);
        }
        Checks.due("point elsewhere", x.point(2, second), true);
        Checks.due("ref 2", x.ref(2), second);
        Checks.due("ref 1", x.ref(1), first);
        Checks.due("a point that is refused", x.point(2, blob), false);
        Checks.due("ref 2 stays", x.ref(2), second);
    }

    private static void wanting() {
        Run x = new Run();
        int tree = Checks.store(x, Checks.TREE);
        int first = Checks.store(x, Checks.COMMIT, Checks.commit(tree, 1));
        int second = Checks.store(x, Checks.COMMIT, Checks.commit(tree, 2));
        Checks.due("want without refs", x.want(first), false);
        Checks.due("want(-1)", x.want(-1), false);
        x.point(3, first);
        Checks.due("want of a tree", x.want(tree), false);
        Checks.due("want of another commit", x.want(second), false);
        Checks.due("want(-1)", x.want(-1), false);
        Checks.due("want(0)", x.want(0), false);
        Checks.due("nothing is wanted", x.serve(), -1);
        Checks.due("want", x.want(first), true);
        Checks.due("want again", x.want(first), true);
        x.point(3, second);
        Checks.due("want of what no ref leads to any more", x.want(first), false);
        Checks.due("the want stays when the ref goes on", x.serve(), 2);
        Checks.due("no wants any more", x.serve(), -1);
        Checks.due("want of the new one", x.want(second), true);
        x.point(0, first);
        Checks.due("want of both", x.want(first), true);
        Checks.due("both and the tree", x.serve(), 3);
    }

    private static void having() {
        Run x = new Run();
        int[] ids = {-1, 0, Integer.MIN_VALUE, Integer.MAX_VALUE, 70000, 5, 6};
        for (int id : ids) {
            Checks.due("have " + id, x.have(id), true);
            Checks.due("have again " + id, x.have(id), false);
        }
        Checks.due("the eighth", x.have(7), true);
        Checks.due("a ninth", x.have(8), false);
        Checks.due("one that is there", x.have(5), false);
        Checks.due("a serve that is refused", x.serve(), -1);
        Checks.due("leaves the haves", x.have(8), false);
        int tree = Checks.store(x, Checks.TREE);
        int commit = Checks.store(x, Checks.COMMIT, Checks.commit(tree, 1));
        x.point(0, commit);
        x.want(commit);
        Checks.due("haves that the server does not hold", x.serve(), 2);
        Checks.due("no haves any more", x.have(5), true);
    }
}
