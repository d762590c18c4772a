import java.util.ArrayList;
import java.util.Arrays;
import java.util.LinkedHashMap;
import java.util.LinkedHashSet;
import java.util.List;
import java.util.Map;
import java.util.Set;
import java.util.TreeSet;

/** The document once more, in lists and maps and without a thought of room: what answers are due. */
final class PlainModel {
    record Thing(int kind, List<Integer> bytes) {
        int id() {
            List<Integer> all = new ArrayList<>(List.of(kind, bytes.size()));
            all.addAll(bytes);
            return hash(all);
        }

        boolean wellFormed() {
            if (kind == 1) {
                return Set.of(3, 5, 7).contains(bytes.size());
            }
            if (kind == 2) {
                List<Integer> names = new ArrayList<>();
                for (int i = 0; i < bytes.size(); i += 3) {
                    names.add(bytes.get(i));
                }
                return bytes.size() % 3 == 0 && names.equals(new ArrayList<>(new TreeSet<>(names)));
            }
            return true;
        }

        /** What it names: each a list of the ID and the kinds it may have. */
        List<List<Integer>> named() {
            List<List<Integer>> found = new ArrayList<>();
            for (int i = 0; kind == 2 && i < bytes.size(); i += 3) {
                found.add(List.of(bytes.get(i + 1) * 256 + bytes.get(i + 2), 2, 3));
            }
            for (int i = 0; kind == 1 && i + 1 < bytes.size(); i += 2) {
                found.add(List.of(bytes.get(i) * 256 + bytes.get(i + 1), i == 0 ? 2 : 1));
            }
            return found;
        }
    }

    private static final class Fault extends RuntimeException {
        private static final long serialVersionUID = 1L;
        private final int answer;

        Fault(int answer) {
            this.answer = answer;
        }
    }

    private record Part(int head, int sort, int base, List<Integer> row) {
    }

    List<Integer> buffer = new ArrayList<>();
    final Map<Integer, Thing> server = new LinkedHashMap<>();
    final Map<Integer, Thing> client = new LinkedHashMap<>();
    final int[] refs = {-1, -1, -1, -1};
    final Set<Integer> wants = new LinkedHashSet<>();
    final Set<Integer> haves = new LinkedHashSet<>();

    static int hash(List<Integer> numbers) {
        long h = 7;
        for (int x : numbers) {
            h = (h * 257 + x) % 65521;
        }
        return (int) h;
    }

    boolean put(int word, int n) {
        if (n < 1 || n > 4 || buffer.size() + n > 500) {
            return false;
        }
        for (int i = 4 - n; i < 4; i++) {
            buffer.add((word >>> (24 - 8 * i)) & 255);
        }
        return true;
    }

    boolean set(int p, int b) {
        if (p < 0 || p >= buffer.size() || b < 0 || b > 255) {
            return false;
        }
        buffer.set(p, b);
        return true;
    }

    boolean cut(int n) {
        if (n < 0 || n > buffer.size()) {
            return false;
        }
        buffer = new ArrayList<>(buffer.subList(0, n));
        return true;
    }

    int at(int p) {
        return p < 0 || p >= buffer.size() ? -1 : buffer.get(p);
    }

    int store(int kind) {
        Thing thing = new Thing(kind, List.copyOf(buffer));
        if (kind < 1 || kind > 3 || buffer.size() > 24 || !thing.wellFormed()) {
            return -1;
        }
        for (List<Integer> name : thing.named()) {
            Thing other = server.get(name.get(0));
            if (other == null || !name.subList(1, name.size()).contains(other.kind())) {
                return -1;
            }
        }
        Thing held = server.get(thing.id());
        if (held == null ? server.size() == 16 : !held.equals(thing)) {
            return -1;
        }
        server.put(thing.id(), thing);
        buffer = new ArrayList<>();
        return thing.id();
    }

    boolean point(int r, int id) {
        if (r < 0 || r > 3 || !server.containsKey(id) || server.get(id).kind() != 1) {
            return false;
        }
        refs[r] = id;
        return true;
    }

    int ref(int r) {
        return r < 0 || r > 3 ? -1 : refs[r];
    }

    boolean want(int id) {
        if (id < 0 || Arrays.stream(refs).noneMatch(r -> r == id)) {
            return false;
        }
        wants.add(id);
        return true;
    }

    boolean have(int id) {
        return haves.size() < 8 && haves.add(id);
    }

    int serve() {
        if (wants.isEmpty()) {
            return -1;
        }
        Set<Integer> due = new LinkedHashSet<>();
        wants.forEach(id -> gather(server, id, due));
        Set<Integer> had = new LinkedHashSet<>();
        haves.stream().filter(server::containsKey).forEach(id -> gather(server, id, had));
        due.removeAll(had);
        wants.clear();
        haves.clear();
        List<Thing> chosen = new ArrayList<>();
        for (int kind = 1; kind <= 3; kind++) {
            for (Thing thing : server.values()) {
                if (thing.kind() == kind && due.contains(thing.id())) {
                    chosen.add(thing);
                }
            }
        }
        buffer = chosen.isEmpty() ? new ArrayList<>() : packOf(chosen);
        return chosen.size();
    }

    private static List<Integer> packOf(List<Thing> chosen) {
        List<Integer> out = new ArrayList<>(List.of(80, 1, chosen.size()));
        List<Integer> heads = new ArrayList<>();
        for (int i = 0; i < chosen.size(); i++) {
            Thing thing = chosen.get(i);
            heads.add(out.size());
            List<Integer> best = entry(thing.kind(), List.of(), thing.bytes());
            boolean whole = true;
            for (int j = 0; j < i; j++) {
                if (chosen.get(j).kind() == thing.kind()) {
                    int back = out.size() - heads.get(j);
                    List<Integer> other = entry(6, List.of(back / 256, back % 256),
                        difference(chosen.get(j).bytes(), thing.bytes()));
                    if (other.size() < best.size() || other.size() == best.size() && !whole) {
                        best = other;
                        whole = false;
                    }
                }
            }
            out.addAll(best);
        }
        int h = hash(out);
        out.addAll(List.of(h / 256, h % 256));
        return out;
    }

    static List<Integer> entry(int sort, List<Integer> base, List<Integer> row) {
        List<Integer> out = new ArrayList<>();
        out.add(16 * sort + row.size() % 16 + (row.size() > 15 ? 128 : 0));
        if (row.size() > 15) {
            out.add(row.size() / 16);
        }
        out.addAll(base);
        out.addAll(packed(row));
        return out;
    }

    static List<Integer> packed(List<Integer> row) {
        List<Integer> out = new ArrayList<>();
        List<Integer> rest = row;
        while (!rest.isEmpty()) {
            int n = alike(rest);
            if (n >= 3) {
                n = Math.min(n, 130);
                out.addAll(List.of(n + 125, rest.get(0)));
            } else {
                n = 0;
                while (n < rest.size() && n < 128 && alike(rest.subList(n, rest.size())) < 3) {
                    n++;
                }
                out.add(n - 1);
                out.addAll(rest.subList(0, n));
            }
            rest = rest.subList(n, rest.size());
        }
        return out;
    }

    private static int alike(List<Integer> row) {
        int n = 1;
        while (n < row.size() && row.get(n).equals(row.get(0))) {
            n++;
        }
        return n;
    }

    static List<Integer> difference(List<Integer> base, List<Integer> content) {
        List<Integer> out = new ArrayList<>(List.of(base.size(), content.size()));
        List<Integer> plain = new ArrayList<>();
        int p = 0;
        while (p < content.size()) {
            int n = content.size() - p;
            while (java.util.Collections.indexOfSubList(base, content.subList(p, p + n)) < 0) {
                n--;
            }
            if (n >= 3) {
                flush(plain, out);
                out.addAll(List.of(128 + n, java.util.Collections.indexOfSubList(base, content.subList(p, p + n))));
                p += n;
            } else {
                plain.add(content.get(p));
                p++;
            }
        }
        flush(plain, out);
        return out;
    }

    private static void flush(List<Integer> plain, List<Integer> out) {
        if (!plain.isEmpty()) {
            out.add(plain.size());
            out.addAll(plain);
            plain.clear();
        }
    }

    int receive() {
        try {
            List<Thing> things = workedOut(readParts());
            for (Thing thing : things) {
                boolean clash = things.stream().anyMatch(t -> t.id() == thing.id() && !t.equals(thing));
                Thing held = client.get(thing.id());
                if (!thing.wellFormed() || clash || held != null && !held.equals(thing)) {
                    return -1001;
                }
            }
            Map<Integer, Thing> after = new LinkedHashMap<>(client);
            things.forEach(t -> after.putIfAbsent(t.id(), t));
            if (after.size() > 24) {
                return -1002;
            }
            int fresh = after.size() - client.size();
            client.putAll(after);
            return fresh;
        } catch (Fault f) {
            return f.answer;
        }
    }

    private int byteAt(int p) {
        if (p >= buffer.size()) {
            throw new Fault(-1 - p);
        }
        return buffer.get(p);
    }

    private void must(boolean right, int p) {
        if (!right) {
            throw new Fault(-1 - p);
        }
    }

    private List<Part> readParts() {
        must(byteAt(0) == 80, 0);
        must(byteAt(1) == 1, 1);
        int n = byteAt(2);
        must(n >= 1 && n <= 16, 2);
        List<Part> parts = new ArrayList<>();
        int p = 3;
        for (int i = 0; i < n; i++) {
            p = readPart(p, parts);
        }
        int h = hash(buffer.subList(0, p));
        must(byteAt(p) == h / 256, p);
        must(byteAt(p + 1) == h % 256, p + 1);
        must(buffer.size() == p + 2, p + 2);
        return parts;
    }

    private int readPart(int start, List<Part> parts) {
        int p = start;
        int first = byteAt(p);
        int sort = (first & 0x70) >> 4;
        must(Set.of(1, 2, 3, 6, 7).contains(sort), p);
        int size = first & 15;
        if ((first & 128) != 0) {
            p++;
            int high = byteAt(p);
            must(high >= 1 && high <= 15, p);
            size += 16 * high;
            must(sort > 3 || size <= 24, p);
        }
        p++;
        int base = 0;
        if (sort > 3) {
            base = byteAt(p) * 256;
            base += byteAt(p + 1);
            if (sort == 6) {
                base = start - base;
                int head = base;
                must(parts.stream().anyMatch(q -> q.head() == head), p + 1);
            }
            p += 2;
        }
        List<Integer> row = new ArrayList<>();
        while (row.size() < size) {
            int c = byteAt(p);
            int run = c < 128 ? c + 1 : c - 125;
            must(row.size() + run <= size, p);
            p++;
            for (int i = 0; i < run; i++) {
                row.add(byteAt(c < 128 ? p + i : p));
            }
            p += c < 128 ? run : 1;
        }
        parts.add(new Part(start, sort, base, row));
        return p;
    }

    private List<Thing> workedOut(List<Part> parts) {
        Thing[] made = new Thing[parts.size()];
        for (int i = 0; i < made.length; i++) {
            Part part = parts.get(i);
            made[i] = part.sort() <= 3 ? new Thing(part.sort(), part.row()) : null;
        }
        boolean brings = true;
        while (brings) {
            brings = false;
            for (int i = 0; i < made.length; i++) {
                if (made[i] == null) {
                    Thing base = baseOf(parts.get(i), parts, made);
                    made[i] = base == null ? null : applied(base, parts.get(i).row());
                    brings |= made[i] != null;
                }
            }
        }
        if (Arrays.asList(made).contains(null)) {
            throw new Fault(-1000);
        }
        return Arrays.asList(made);
    }

    private Thing baseOf(Part part, List<Part> parts, Thing[] made) {
        for (int i = 0; i < made.length; i++) {
            boolean it = part.sort() == 6 ? parts.get(i).head() == part.base()
                : made[i] != null && made[i].id() == part.base();
            if (it) {
                return made[i];
            }
        }
        return client.get(part.base());
    }

    private static Thing applied(Thing base, List<Integer> row) {
        try {
            List<Integer> out = new ArrayList<>();
            int p = 2;
            while (p < row.size()) {
                int c = row.get(p);
                if (c == 0 || c == 128) {
                    return null;
                }
                if (c < 128) {
                    out.addAll(row.subList(p + 1, p + 1 + c));
                    p += 1 + c;
                } else {
                    int place = row.get(p + 1);
                    out.addAll(base.bytes().subList(place, place + c - 128));
                    p += 2;
                }
            }
            boolean right = row.get(0) == base.bytes().size() && row.get(1) == out.size() && out.size() <= 24;
            return right ? new Thing(base.kind(), out) : null;
        } catch (IndexOutOfBoundsException e) {
            return null;
        }
    }

    int forget() {
        int n = client.size();
        client.clear();
        return n;
    }

    private Map<Integer, Thing> side(int side) {
        return side == 0 ? server : side == 1 ? client : Map.of();
    }

    int kind(int side, int id) {
        Thing thing = side(side).get(id);
        return thing == null ? 0 : thing.kind();
    }

    int length(int side, int id) {
        Thing thing = side(side).get(id);
        return thing == null ? -1 : thing.bytes().size();
    }

    int content(int side, int id, int i) {
        return i < 0 || i >= length(side, id) ? -1 : side(side).get(id).bytes().get(i);
    }

    int closure(int side, int id) {
        Set<Integer> found = new LinkedHashSet<>();
        return gather(side(side), id, found) ? found.size() : -1;
    }

    private static boolean gather(Map<Integer, Thing> things, int id, Set<Integer> found) {
        if (!things.containsKey(id)) {
            return false;
        }
        if (!found.add(id)) {
            return true;
        }
        boolean all = true;
        for (List<Integer> name : things.get(id).named()) {
            Thing other = things.get(name.get(0));
            boolean right = other != null && name.subList(1, name.size()).contains(other.kind());
            all &= right && gather(things, name.get(0), found);
        }
        return all;
    }

    int count(int side) {
        return side == 0 || side == 1 ? side(side).size() : -1;
    }
}
