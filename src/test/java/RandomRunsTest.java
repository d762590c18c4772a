import java.util.ArrayList;
import java.util.List;
import java.util.Random;

/** Runs of calls, always the same ones, whose answers and states must be those of PlainModel. */
public final class RandomRunsTest {
    private static final int RUNS = 2500;
    // No step makes more calls than this.
    private static final int DEAREST_STEP = 160;

    private final Random random;
    private final Run x = new Run();
    private final PlainModel model = new PlainModel();
    private final List<Integer> ids = new ArrayList<>(List.of(-1, 0, 4467, 65535));
    private final String name;

    private RandomRunsTest(int run) {
        random = new Random(run);
        name = "run " + run + ": ";
    }

    public static void main(String[] args) {
        for (int run = 0; run < RUNS; run++) {
            RandomRunsTest test = new RandomRunsTest(run);
            test.begin();
            while (test.x.calls() + DEAREST_STEP < Run.MOST_CALLS) {
                test.step();
            }
        }
        Checks.end();
    }

    private int below(int n) {
        return random.nextInt(n);
    }

    private int anyId() {
        return ids.get(below(ids.size()));
    }

    /** A history for the server, so that there is something to serve. */
    private void begin() {
        for (int kind = 3; kind > 0; kind--) {
            for (int i = below(6); i > 0; i--) {
                storeSomething(kind);
            }
        }
    }

    private void step() {
        int what = below(24);
        if (what < 5) {
            storeSomething(1 + below(3));
        } else if (what < 8) {
            pointAndWant();
        } else if (what < 10) {
            haveSomething();
        } else if (what < 12) {
            serveAndReceive();
        } else if (what < 15) {
            receiveSomething();
        } else if (what < 17) {
            spoil();
        } else if (what == 17 && below(4) == 0) {
            Checks.due(name + "forget", x.forget(), model.forget());
        } else {
            oddCall();
        }
        compare();
    }

    private void fill(List<Integer> bytes) {
        Checks.due(name + "cut(0)", x.cut(0), model.cut(0));
        for (int p = 0; p < bytes.size(); p += 4) {
            int n = Math.min(4, bytes.size() - p);
            int word = random.nextInt();
            for (int b : bytes.subList(p, p + n)) {
                word = word << 8 | b;
            }
            Checks.due(name + "put", x.put(word, n), model.put(word, n));
        }
    }

    private List<Integer> two(int number) {
        return List.of((number >> 8) & 255, number & 255);
    }

    private List<Integer> blob() {
        List<Integer> bytes = new ArrayList<>();
        int n = below(25);
        int kinds = 1 + below(6);
        // Rising rows and rows of few bytes make copies and runs likely.
        boolean rising = below(2) == 0;
        int start = below(4);
        for (int i = 0; i < n; i++) {
            bytes.add(rising && below(8) != 0 ? start + i : below(kinds));
        }
        return bytes;
    }

    private List<Integer> content(int kind) {
        if (kind == 3) {
            return blob();
        }
        List<Integer> bytes = new ArrayList<>();
        if (kind == 2) {
            int name = below(3);
            for (int i = below(9); i > 0; i--) {
                bytes.add(name);
                bytes.addAll(two(below(16) == 0 ? anyId() : anyOf(2 + below(2))));
                name += below(12) == 0 ? 0 : 1 + below(3);
            }
        } else {
            bytes.addAll(two(below(16) == 0 ? anyId() : anyOf(2)));
            for (int i = below(3); i > 0; i--) {
                bytes.addAll(two(below(16) == 0 ? anyId() : anyOf(1)));
            }
            bytes.add(below(6));
        }
        return bytes;
    }

    private void storeSomething(int kind) {
        fill(content(kind));
        for (int tries = 0; tries < 3; tries++) {
            int id = x.store(kind);
            Checks.due(name + "store", id, model.store(kind));
            if (id >= 0) {
                ids.add(id);
                return;
            }
            fill(content(kind));
        }
    }

    /** The ID of an object of the server of that kind, if there is one. */
    private int anyOf(int kind) {
        List<Integer> found = new ArrayList<>();
        for (int id : model.server.keySet()) {
            if (model.kind(0, id) == kind) {
                found.add(id);
            }
        }
        return found.isEmpty() ? anyId() : found.get(below(found.size()));
    }

    private void pointAndWant() {
        int r = below(5) - (below(10) == 0 ? 1 : 0);
        int id = anyOf(1);
        Checks.due(name + "point", x.point(r, id), model.point(r, id));
        int wanted = below(3) == 0 ? anyOf(1) : id;
        Checks.due(name + "want", x.want(wanted), model.want(wanted));
    }

    private void haveSomething() {
        int id = below(3) == 0 ? anyId() : anyOf(1 + below(3));
        Checks.due(name + "have", x.have(id), model.have(id));
    }

    private void serveAndReceive() {
        Checks.due(name + "serve", x.serve(), model.serve());
        compare();
        if (below(3) != 0) {
            Checks.due(name + "receive", x.receive(), model.receive());
        }
    }

    private void seal(List<Integer> bytes) {
        bytes.addAll(two(PlainModel.hash(bytes)));
    }

    private void receiveSomething() {
        List<PlainModel.Thing> things = new ArrayList<>();
        List<List<Integer>> entries = new ArrayList<>();
        int n = 1 + below(below(4) == 0 ? 16 : 5);
        for (int i = 0; i < n; i++) {
            int kind = 1 + below(3);
            things.add(new PlainModel.Thing(kind, content(kind)));
            ids.add(things.get(i).id());
        }
        List<Integer> heads = new ArrayList<>();
        List<Integer> out = new ArrayList<>(List.of(80, 1, n));
        for (int i = 0; i < n; i++) {
            heads.add(out.size());
            out.addAll(entryOf(things, heads, i));
        }
        seal(out);
        fill(out);
        Checks.due(name + "receive", x.receive(), model.receive());
    }

    private List<Integer> entryOf(List<PlainModel.Thing> things, List<Integer> heads, int i) {
        PlainModel.Thing thing = things.get(i);
        int way = below(4);
        int j = below(way == 1 ? Math.max(1, i) : things.size());
        List<Integer> base = things.get(j).bytes();
        if (way == 1 && i > 0) {
            List<Integer> row = maybeBent(PlainModel.difference(base, thing.bytes()));
            return PlainModel.entry(6, two(heads.get(i) - heads.get(j)), row);
        }
        if (way == 2 && j != i) {
            return PlainModel.entry(7, two(things.get(j).id()), PlainModel.difference(base, thing.bytes()));
        }
        int id = anyId();
        if (way == 3 && model.client.containsKey(id)) {
            List<Integer> held = model.client.get(id).bytes();
            return PlainModel.entry(7, two(id), maybeBent(PlainModel.difference(held, thing.bytes())));
        }
        return PlainModel.entry(thing.kind(), List.of(), thing.bytes());
    }

    private List<Integer> maybeBent(List<Integer> row) {
        if (below(8) == 0) {
            row.set(below(row.size()), below(2) == 0 ? below(256) : 128 * below(2) + below(5));
        }
        return row;
    }

    /** Changes a byte of what may be a pack, mostly makes the hash right again, and reads it. */
    private void spoil() {
        List<Integer> bytes = new ArrayList<>(model.buffer);
        if (bytes.size() > 2) {
            int p = below(bytes.size());
            bytes.set(p, below(3) == 0 ? below(256) : (bytes.get(p) + (below(2) == 0 ? 1 : 255)) % 256);
            if (below(4) != 0) {
                bytes = new ArrayList<>(bytes.subList(0, bytes.size() - 2));
                seal(bytes);
            }
        }
        fill(bytes);
        if (below(6) == 0) {
            int n = below(bytes.size() + 2);
            Checks.due(name + "cut", x.cut(n), model.cut(n));
        }
        Checks.due(name + "receive", x.receive(), model.receive());
    }

    private void oddCall() {
        int a = below(3) == 0 ? random.nextInt() : below(510) - 4;
        int b = below(3) == 0 ? random.nextInt() : below(262) - 3;
        switch (below(6)) {
            case 0 -> Checks.due(name + "put", x.put(a, b % 6), model.put(a, b % 6));
            case 1 -> Checks.due(name + "set", x.set(a, b), model.set(a, b));
            case 2 -> Checks.due(name + "cut", x.cut(a), model.cut(a));
            case 3 -> Checks.due(name + "store", x.store(b % 5), model.store(b % 5));
            case 4 -> Checks.due(name + "have", x.have(a), model.have(a));
            default -> Checks.due(name + "want", x.want(a), model.want(a));
        }
    }

    private void asked(String what, Run.Call question, long due) {
        Checks.due(name + what, x.aside(question), due);
    }

    private void compare() {
        Checks.due(name + "the buffer", Checks.buffer(x), model.buffer.stream().mapToInt(b -> b).toArray());
        for (int i = -1; i < 5; i++) {
            int r = i;
            asked("ref", y -> y.ref(r), model.ref(r));
        }
        for (int side = -1; side < 3; side++) {
            int s = side;
            asked("count", y -> y.count(s), model.count(s));
            for (int id : ids) {
                compareObject(side, id, below(26) - 1);
            }
        }
    }

    private void compareObject(int side, int id, int i) {
        asked("kind", y -> y.kind(side, id), model.kind(side, id));
        asked("length", y -> y.length(side, id), model.length(side, id));
        asked("closure", y -> y.closure(side, id), model.closure(side, id));
        asked("content", y -> y.content(side, id, i), model.content(side, id, i));
    }
}
