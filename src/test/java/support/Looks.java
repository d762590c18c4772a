import java.util.ArrayList;
import java.util.Arrays;
import java.util.LinkedHashSet;
import java.util.List;
import java.util.Set;

/** All that is to be seen of an object, also what shows only in later calls: its wants, haves and rooms. */
final class Looks {
    // The face names no objects by itself, so the tests note the IDs that they come across.
    private static final Set<Integer> KNOWN = new LinkedHashSet<>();

    private Looks() {
    }

    static void know(int id) {
        if (id >= 0) {
            KNOWN.add(id);
        }
    }

    static List<String> of(Run run) {
        List<String> seen = new ArrayList<>();
        seen.add("buffer " + Arrays.toString(Checks.buffer(run)));
        for (int r = 0; r < 4; r++) {
            seen.add("ref " + ref(run, r));
        }
        for (int side = 0; side < 2; side++) {
            int s = side;
            seen.add("count " + run.aside(x -> x.count(s)));
            for (int id : KNOWN) {
                addObject(run, side, id, seen);
            }
        }
        seen.add("pack " + pack(run.again()));
        seen.add("pack of all refs " + packOfRefs(run.again()));
        seen.add("room for haves " + roomForHaves(run.again()));
        seen.add("receive " + run.again().receive());
        seen.add("forget " + run.again().forget());
        return seen;
    }

    private static int ref(Run run, int r) {
        return (int) run.aside(x -> x.ref(r));
    }

    private static void addObject(Run run, int side, int id, List<String> seen) {
        long kind = run.aside(x -> x.kind(side, id));
        if (kind != 0) {
            seen.add("object " + side + " " + id + " " + kind + " " + run.aside(x -> x.closure(side, id))
                + " " + Arrays.toString(Checks.content(run, side, id)));
        }
        if (kind != 0 && side == 0) {
            seen.add("may be had " + run.again().have(id));
        }
    }

    private static String pack(Run run) {
        int n = run.serve();
        return n + " " + Arrays.toString(Checks.buffer(run));
    }

    private static String packOfRefs(Run run) {
        for (int r = 0; r < 4; r++) {
            run.want(ref(run, r));
        }
        return pack(run);
    }

    private static int roomForHaves(Run run) {
        int room = 0;
        while (run.have(100000 + room)) {
            room++;
        }
        return room;
    }
}
