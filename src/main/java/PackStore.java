import java.util.Arrays;

/**
 * A server of named objects that writes packs, and a client that reads them.
 * All rows are made once, in the constructor, because every call of a run lives in one room.
 */
public final class PackStore {
    private static final int SERVER = 0;
    private static final int CLIENT = 1;
    private static final int SERVER_ROOM = 16;
    private static final int CLIENT_ROOM = 24;

    private static final int COMMIT = 1;
    private static final int TREE = 2;
    private static final int BLOB = 3;
    private static final int MAX_CONTENT = 24;

    private static final int HASH_START = 7;
    private static final int HASH_FACTOR = 257;
    private static final int HASH_MODULUS = 65521;

    private static final int BUFFER_ROOM = 500;
    private static final int MAX_PUT = 4;
    private static final int REFS = 4;
    private static final int NO_REF = -1;
    private static final int MAX_HAVES = 8;

    private static final int PACK_FIRST = 80;
    private static final int PACK_SECOND = 1;
    private static final int MAX_ENTRIES = 16;
    private static final int SORT_BACK = 6;
    private static final int SORT_ID = 7;
    private static final int MAX_ENTRY_SIZE = 255;

    private static final int NOT_WORKED_OUT = -1000;
    private static final int NOT_SOUND = -1001;
    private static final int TOO_MANY = -1002;

    private final Row buffer;
    private final Shelf server;
    private final Shelf client;
    private final Item draft;
    private final int[] refs;
    private final IdList wants;
    private final IdList haves;
    private final Closure reached;
    private final Closure had;
    private final PackWriter writer;
    private final PackReader reader;

    public PackStore() {
        buffer = new Row(BUFFER_ROOM);
        server = new Shelf(SERVER_ROOM);
        client = new Shelf(CLIENT_ROOM);
        draft = new Item();
        refs = new int[REFS];
        Arrays.fill(refs, NO_REF);
        wants = new IdList(SERVER_ROOM);
        haves = new IdList(MAX_HAVES);
        reached = new Closure(CLIENT_ROOM);
        had = new Closure(SERVER_ROOM);
        writer = new PackWriter(server, buffer);
        reader = new PackReader(buffer, client);
    }

    public boolean put(int word, int n) {
        if (n < 1 || n > MAX_PUT || n > buffer.left()) {
            return false;
        }
        for (int i = n - 1; i >= 0; i--) {
            buffer.add((word >> (8 * i)) & 255);
        }
        return true;
    }

    public boolean set(int p, int b) {
        if (b < 0 || b > 255) {
            return false;
        }
        return buffer.replace(p, b);
    }

    public boolean cut(int n) {
        return buffer.shorten(n);
    }

    public int size() {
        return buffer.used();
    }

    public int at(int p) {
        return buffer.get(p);
    }

    public int store(int kind) {
        if (kind < COMMIT || kind > BLOB || buffer.used() > MAX_CONTENT) {
            return -1;
        }
        draft.fill(kind, buffer);
        int place = server.find(draft.id());
        if (place >= 0) {
            if (!server.get(place).isSame(draft)) {
                return -1;
            }
        } else {
            if (server.left() == 0 || !draft.isWellFormed() || !server.holdsAllNamed(draft)) {
                return -1;
            }
            server.keep(draft);
        }
        buffer.clear();
        return draft.id();
    }

    public boolean point(int r, int id) {
        if (r < 0 || r >= REFS) {
            return false;
        }
        int place = server.find(id);
        if (place < 0 || server.get(place).sort() != COMMIT) {
            return false;
        }
        refs[r] = id;
        return true;
    }

    public int ref(int r) {
        return r < 0 || r >= REFS ? NO_REF : refs[r];
    }

    public boolean want(int id) {
        if (!isLedTo(id)) {
            return false;
        }
        wants.add(id);
        return true;
    }

    public boolean have(int id) {
        return haves.add(id);
    }

    public int serve() {
        if (wants.used() == 0) {
            return -1;
        }
        reached.clear();
        for (int i = 0; i < wants.used(); i++) {
            reached.include(server, wants.get(i));
        }
        had.clear();
        for (int i = 0; i < haves.used(); i++) {
            had.include(server, haves.get(i));
        }
        wants.clear();
        haves.clear();
        return writer.write(reached, had);
    }

    public int receive() {
        if (!reader.readPack()) {
            return -1 - reader.fault();
        }
        if (!reader.workOut()) {
            return NOT_WORKED_OUT;
        }
        if (!reader.isSound()) {
            return NOT_SOUND;
        }
        if (reader.newItems() > client.left()) {
            return TOO_MANY;
        }
        return reader.keepNew();
    }

    public int forget() {
        int gone = client.held();
        client.clear();
        return gone;
    }

    public int kind(int side, int id) {
        Item item = itemOn(side, id);
        return item == null ? 0 : item.sort();
    }

    public int length(int side, int id) {
        Item item = itemOn(side, id);
        return item == null ? -1 : item.bytes().used();
    }

    public int content(int side, int id, int i) {
        Item item = itemOn(side, id);
        return item == null ? -1 : item.bytes().get(i);
    }

    public int closure(int side, int id) {
        Shelf shelf = shelfOf(side);
        if (shelf == null) {
            return -1;
        }
        reached.clear();
        return reached.include(shelf, id) ? reached.found() : -1;
    }

    public int count(int side) {
        Shelf shelf = shelfOf(side);
        return shelf == null ? -1 : shelf.held();
    }

    private boolean isLedTo(int id) {
        // A ref that leads to nothing holds a number that is no ID, and must not be found by it.
        if (id == NO_REF) {
            return false;
        }
        for (int r = 0; r < REFS; r++) {
            if (refs[r] == id) {
                return true;
            }
        }
        return false;
    }

    private Shelf shelfOf(int side) {
        if (side == SERVER) {
            return server;
        }
        return side == CLIENT ? client : null;
    }

    private Item itemOn(int side, int id) {
        Shelf shelf = shelfOf(side);
        if (shelf == null) {
            return null;
        }
        int place = shelf.find(id);
        return place < 0 ? null : shelf.get(place);
    }

    private static int hashStep(int h, int x) {
        return (h * HASH_FACTOR + x) % HASH_MODULUS;
    }

    /** A row of bytes that has room for a fixed number of them. */
    private static final class Row {
        private final int[] bytes;
        private int used;

        Row(int room) {
            bytes = new int[room];
            used = 0;
        }

        int used() {
            return used;
        }

        int left() {
            return bytes.length - used;
        }

        int get(int p) {
            return p < 0 || p >= used ? -1 : bytes[p];
        }

        int getTwo(int p) {
            return get(p) * 256 + get(p + 1);
        }

        void clear() {
            used = 0;
        }

        /** Adds a byte, for which the callers see to it that there is room. */
        void add(int b) {
            if (used < bytes.length) {
                bytes[used] = b;
                used++;
            }
        }

        void addTwo(int number) {
            add(number / 256);
            add(number % 256);
        }

        /** Adds n bytes of another row; false, and adds none, if they are not all there or have no room. */
        boolean addPart(Row from, int start, int n) {
            if (start < 0 || n < 0 || start > from.used - n || n > bytes.length - used) {
                return false;
            }
            System.arraycopy(from.bytes, start, bytes, used, n);
            used += n;
            return true;
        }

        void addAll(Row from) {
            addPart(from, 0, from.used);
        }

        boolean replace(int p, int b) {
            if (p < 0 || p >= used) {
                return false;
            }
            bytes[p] = b;
            return true;
        }

        boolean shorten(int n) {
            if (n < 0 || n > used) {
                return false;
            }
            used = n;
            return true;
        }

        boolean isSame(Row other) {
            if (used != other.used) {
                return false;
            }
            for (int i = 0; i < used; i++) {
                if (bytes[i] != other.bytes[i]) {
                    return false;
                }
            }
            return true;
        }

        /** Goes on with a hash over the first n bytes. */
        int hashOn(int h, int n) {
            int hash = h;
            for (int i = 0; i < n && i < used; i++) {
                hash = hashStep(hash, bytes[i]);
            }
            return hash;
        }

        /** How many bytes from p on are the same as the one at p. */
        int sameFrom(int p) {
            int end = p;
            while (end < used && bytes[end] == bytes[p]) {
                end++;
            }
            return end - p;
        }

        /** How many bytes from p on are those of another row from its place q on. */
        int commonFrom(int p, Row other, int q) {
            int most = Math.min(used - p, other.used - q);
            int n = 0;
            while (n < most && bytes[p + n] == other.bytes[q + n]) {
                n++;
            }
            return n;
        }
    }

    /** A short list of IDs, none of them twice. */
    private static final class IdList {
        private final int[] ids;
        private int used;

        IdList(int room) {
            ids = new int[room];
            used = 0;
        }

        int used() {
            return used;
        }

        int get(int i) {
            return i < 0 || i >= used ? -1 : ids[i];
        }

        void clear() {
            used = 0;
        }

        boolean add(int id) {
            if (used >= ids.length) {
                return false;
            }
            for (int i = 0; i < used; i++) {
                if (ids[i] == id) {
                    return false;
                }
            }
            ids[used] = id;
            used++;
            return true;
        }
    }

    /** An object of the document: a commit, a tree or a blob. */
    private static final class Item {
        private final Row bytes = new Row(MAX_CONTENT);
        private int sort;
        private int id;

        int sort() {
            return sort;
        }

        int id() {
            return id;
        }

        Row bytes() {
            return bytes;
        }

        void fill(int newSort, Row from) {
            bytes.clear();
            bytes.addAll(from);
            finish(newSort);
        }

        /** Gives the item its kind and, from that and the bytes that are there, its ID. */
        void finish(int newSort) {
            sort = newSort;
            int h = hashStep(hashStep(HASH_START, sort), bytes.used());
            id = bytes.hashOn(h, bytes.used());
        }

        boolean isSame(Item other) {
            return sort == other.sort && bytes.isSame(other.bytes);
        }

        boolean clashesWith(Item other) {
            return id == other.id && !isSame(other);
        }

        boolean isWellFormed() {
            int n = bytes.used();
            switch (sort) {
                case COMMIT:
                    return n == 3 || n == 5 || n == 7;
                case TREE:
                    return n % 3 == 0 && hasRisingNames();
                default:
                    return true;
            }
        }

        private boolean hasRisingNames() {
            for (int p = 3; p < bytes.used(); p += 3) {
                if (bytes.get(p) <= bytes.get(p - 3)) {
                    return false;
                }
            }
            return true;
        }

        int namedItems() {
            switch (sort) {
                case COMMIT:
                    return (bytes.used() - 1) / 2;
                case TREE:
                    return bytes.used() / 3;
                default:
                    return 0;
            }
        }

        int namedId(int i) {
            return bytes.getTwo(sort == COMMIT ? 2 * i : 3 * i + 1);
        }

        boolean mayName(int i, int otherSort) {
            if (sort == COMMIT) {
                return otherSort == (i == 0 ? TREE : COMMIT);
            }
            return otherSort == TREE || otherSort == BLOB;
        }
    }

    /** The objects of one side, in the order in which they came. */
    private static final class Shelf {
        private final Item[] items;
        private int held;

        Shelf(int room) {
            items = new Item[room];
            for (int i = 0; i < room; i++) {
                items[i] = new Item();
            }
            held = 0;
        }

        int held() {
            return held;
        }

        int left() {
            return items.length - held;
        }

        /** The item at a place that find or a count up to held has given. */
        Item get(int place) {
            return items[place];
        }

        void clear() {
            held = 0;
        }

        int find(int id) {
            for (int i = 0; i < held; i++) {
                if (items[i].id() == id) {
                    return i;
                }
            }
            return -1;
        }

        void keep(Item item) {
            if (held < items.length) {
                items[held].fill(item.sort(), item.bytes());
                held++;
            }
        }

        /** The place of the i-th object that the item names; -1 if none is held or it has a wrong kind. */
        int findNamed(Item item, int i) {
            int place = find(item.namedId(i));
            return place >= 0 && item.mayName(i, items[place].sort()) ? place : -1;
        }

        boolean holdsAllNamed(Item item) {
            for (int i = 0; i < item.namedItems(); i++) {
                if (findNamed(item, i) < 0) {
                    return false;
                }
            }
            return true;
        }
    }

    /** The places of the objects of one or more closures on a side. */
    private static final class Closure {
        private final boolean[] marked;
        private final int[] places;
        private int found;

        Closure(int room) {
            marked = new boolean[room];
            places = new int[room];
            found = 0;
        }

        int found() {
            return found;
        }

        boolean has(int place) {
            return place >= 0 && place < marked.length && marked[place];
        }

        void clear() {
            for (int i = 0; i < marked.length; i++) {
                marked[i] = false;
            }
            found = 0;
        }

        /** Adds the closure of an object; false if the side does not hold all of it. */
        boolean include(Shelf shelf, int id) {
            int first = found;
            int place = shelf.find(id);
            if (place < 0) {
                return false;
            }
            mark(place);
            // A client's objects may name one another in a circle: each place is queued only once.
            for (int i = first; i < found && i < places.length; i++) {
                if (!markNamed(shelf, shelf.get(places[i]))) {
                    return false;
                }
            }
            return true;
        }

        private boolean markNamed(Shelf shelf, Item item) {
            for (int i = 0; i < item.namedItems(); i++) {
                int place = shelf.findNamed(item, i);
                if (place < 0) {
                    return false;
                }
                mark(place);
            }
            return true;
        }

        private void mark(int place) {
            if (place < marked.length && !marked[place]) {
                marked[place] = true;
                places[found] = place;
                found++;
            }
        }
    }

    /** Rows of bytes as runs. */
    private static final class Packing {
        static final int FIRST_REPEAT = 128;
        private static final int REPEAT_BIAS = 125;
        private static final int MIN_REPEAT = 3;
        private static final int MAX_REPEAT = 130;
        private static final int MAX_PLAIN = 128;

        /** How many bytes the run that begins with c stands for. */
        static int runLength(int c) {
            return c < FIRST_REPEAT ? c + 1 : c - REPEAT_BIAS;
        }

        static void pack(Row from, Row to) {
            int step;
            for (int p = 0; p < from.used(); p += step) {
                int same = from.sameFrom(p);
                if (same >= MIN_REPEAT) {
                    step = Math.min(same, MAX_REPEAT);
                    to.add(step + REPEAT_BIAS);
                    to.add(from.get(p));
                } else {
                    step = plainLength(from, p);
                    to.add(step - 1);
                    to.addPart(from, p, step);
                }
            }
        }

        private static int plainLength(Row from, int p) {
            int end = p + 1;
            while (end < from.used() && end - p < MAX_PLAIN && from.sameFrom(end) < MIN_REPEAT) {
                end++;
            }
            return end - p;
        }
    }

    /** Differences of a content from a base. */
    private static final class Difference {
        private static final int COPY = 128;
        private static final int MIN_COPY = 3;
        private static final int HEADER = 2;

        static void write(Row base, Row content, Row to) {
            to.clear();
            to.add(base.used());
            to.add(content.used());
            int waiting = 0;
            int step;
            for (int p = 0; p < content.used(); p += step) {
                int place = longestPlace(base, content, p);
                int n = content.commonFrom(p, base, place);
                if (n >= MIN_COPY) {
                    writePut(content, p - waiting, waiting, to);
                    waiting = 0;
                    to.add(COPY + n);
                    to.add(place);
                    step = n;
                } else {
                    waiting++;
                    step = 1;
                }
            }
            writePut(content, content.used() - waiting, waiting, to);
        }

        private static void writePut(Row content, int start, int n, Row to) {
            if (n > 0) {
                to.add(n);
                to.addPart(content, start, n);
            }
        }

        private static int longestPlace(Row base, Row content, int p) {
            int best = 0;
            int longest = 0;
            for (int place = 0; place < base.used(); place++) {
                int n = content.commonFrom(p, base, place);
                if (n > longest) {
                    longest = n;
                    best = place;
                }
            }
            return best;
        }

        /** Works a difference out; false if it is not one from the base. */
        static boolean apply(Row base, Row difference, Row to) {
            to.clear();
            if (difference.used() < HEADER || difference.get(0) != base.used()) {
                return false;
            }
            int step;
            for (int p = HEADER; p < difference.used(); p += step) {
                int c = difference.get(p);
                step = c < COPY ? 1 + c : 2;
                if (!applyStep(base, difference, p, to)) {
                    return false;
                }
            }
            return to.used() == difference.get(1);
        }

        private static boolean applyStep(Row base, Row difference, int p, Row to) {
            int c = difference.get(p);
            if (c % COPY == 0) {
                return false;
            }
            if (c < COPY) {
                return to.addPart(difference, p + 1, c);
            }
            // A missing place reads as -1, which lies outside of every base.
            return to.addPart(base, difference.get(p + 1), c - COPY);
        }
    }

    /** Writes packs of the server's objects. */
    private static final class PackWriter {
        // No entry of an object of 24 bytes, nor a difference of it, comes near this.
        private static final int ENTRY_ROOM = 64;

        private final Shelf shelf;
        private final Row out;
        private final int[] picked;
        private final int[] heads;
        private int entries;
        private final Row difference;
        private final Row trial;
        private final Row best;

        PackWriter(Shelf shelf, Row out) {
            this.shelf = shelf;
            this.out = out;
            picked = new int[MAX_ENTRIES];
            heads = new int[MAX_ENTRIES];
            entries = 0;
            difference = new Row(ENTRY_ROOM);
            trial = new Row(ENTRY_ROOM);
            best = new Row(ENTRY_ROOM);
        }

        int write(Closure wanted, Closure had) {
            entries = 0;
            for (int sort = COMMIT; sort <= BLOB; sort++) {
                pick(sort, wanted, had);
            }
            out.clear();
            if (entries == 0) {
                return 0;
            }
            out.add(PACK_FIRST);
            out.add(PACK_SECOND);
            out.add(entries);
            for (int i = 0; i < entries; i++) {
                writeEntry(i);
            }
            out.addTwo(out.hashOn(HASH_START, out.used()));
            return entries;
        }

        private void pick(int sort, Closure wanted, Closure had) {
            for (int place = 0; place < shelf.held(); place++) {
                boolean due = wanted.has(place) && !had.has(place);
                if (due && shelf.get(place).sort() == sort && entries < MAX_ENTRIES) {
                    picked[entries] = place;
                    entries++;
                }
            }
        }

        private void writeEntry(int i) {
            Item item = shelf.get(picked[i]);
            heads[i] = out.used();
            best.clear();
            writeHead(item.sort(), item.bytes().used(), best);
            Packing.pack(item.bytes(), best);
            // From the latest base back, so that of several as short the latest one stays.
            for (int j = i - 1; j >= 0; j--) {
                Item base = shelf.get(picked[j]);
                if (base.sort() == item.sort()) {
                    writeByBack(base, item, heads[i] - heads[j]);
                    keepIfShorter();
                }
            }
            out.addAll(best);
        }

        private void writeByBack(Item base, Item item, int back) {
            Difference.write(base.bytes(), item.bytes(), difference);
            trial.clear();
            writeHead(SORT_BACK, difference.used(), trial);
            trial.addTwo(back);
            Packing.pack(difference, trial);
        }

        private void keepIfShorter() {
            if (trial.used() < best.used()) {
                best.clear();
                best.addAll(trial);
            }
        }

        private static void writeHead(int sort, int size, Row to) {
            int high = size / 16;
            int first = 16 * sort + size % 16;
            if (high == 0) {
                to.add(first);
            } else {
                to.add(first + 128);
                to.add(high);
            }
        }
    }

    /** One entry of a pack that is read, and the object that comes of it. */
    private static final class Entry {
        private final Row unpacked = new Row(MAX_ENTRY_SIZE);
        private final Item item = new Item();
        private int head;
        private int sort;
        private int size;
        // For the sort 6 the number of the base's entry, for the sort 7 the base's ID.
        private int base;
        private boolean ready;

        boolean isWhole() {
            return sort <= BLOB;
        }

        boolean hasKnownSort() {
            return sort >= COMMIT && sort <= BLOB || sort == SORT_BACK || sort == SORT_ID;
        }

        void takeWhole() {
            ready = isWhole();
            if (ready) {
                item.fill(sort, unpacked);
            }
        }
    }

    /** Reads packs for the client. */
    private static final class PackReader {
        private final Row in;
        private final Shelf shelf;
        private final Entry[] all;
        private int entries;
        private int place;
        private int fault;

        PackReader(Row in, Shelf shelf) {
            this.in = in;
            this.shelf = shelf;
            all = new Entry[MAX_ENTRIES];
            for (int i = 0; i < MAX_ENTRIES; i++) {
                all[i] = new Entry();
            }
            entries = 0;
            place = 0;
            fault = 0;
        }

        int fault() {
            return fault;
        }

        boolean readPack() {
            place = 0;
            entries = 0;
            return isNext(PACK_FIRST) && isNext(PACK_SECOND) && readEntries() && readHash() && readEnd();
        }

        /** The next byte, from low to high; otherwise, or if it is missing, a fault at it and -1. */
        private int next(int low, int high) {
            int b = in.get(place);
            if (b < low || b > high) {
                fault = place;
                return -1;
            }
            place++;
            return b;
        }

        private boolean isNext(int b) {
            return next(b, b) == b;
        }

        private boolean failAtLast() {
            fault = place - 1;
            return false;
        }

        private boolean readEntries() {
            int n = next(1, MAX_ENTRIES);
            for (int i = 0; i < n; i++) {
                Entry entry = all[i];
                if (!readHead(entry) || !readBase(entry) || !readRuns(entry)) {
                    return false;
                }
                entries++;
            }
            return n > 0;
        }

        private boolean readHead(Entry entry) {
            entry.head = place;
            int first = next(0, 255);
            if (first < 0) {
                return false;
            }
            entry.sort = first / 16 % 8;
            entry.size = first % 16;
            if (!entry.hasKnownSort()) {
                return failAtLast();
            }
            if (first >= 128) {
                int high = next(1, 15);
                if (high < 0) {
                    return false;
                }
                entry.size += 16 * high;
            }
            return entry.isWhole() && entry.size > MAX_CONTENT ? failAtLast() : true;
        }

        private boolean readBase(Entry entry) {
            if (entry.isWhole()) {
                return true;
            }
            int high = next(0, 255);
            int low = high < 0 ? -1 : next(0, 255);
            if (low < 0) {
                return false;
            }
            int number = high * 256 + low;
            if (entry.sort == SORT_ID) {
                entry.base = number;
                return true;
            }
            entry.base = entryAt(entry.head - number);
            return entry.base < 0 ? failAtLast() : true;
        }

        /** The number of the entry, of those read before, whose head lies at p; -1 if there is none. */
        private int entryAt(int p) {
            for (int i = 0; i < entries; i++) {
                if (all[i].head == p) {
                    return i;
                }
            }
            return -1;
        }

        private boolean readRuns(Entry entry) {
            entry.unpacked.clear();
            int run;
            for (int left = entry.size; left > 0; left -= run) {
                int c = next(0, 255);
                if (c < 0) {
                    return false;
                }
                run = Packing.runLength(c);
                if (run > left) {
                    return failAtLast();
                }
                if (!readRun(entry.unpacked, run, c >= Packing.FIRST_REPEAT)) {
                    return false;
                }
            }
            return true;
        }

        private boolean readRun(Row to, int run, boolean repeated) {
            int b = -1;
            for (int i = 0; i < run; i++) {
                if (i == 0 || !repeated) {
                    b = next(0, 255);
                }
                if (b < 0) {
                    return false;
                }
                to.add(b);
            }
            return true;
        }

        private boolean readHash() {
            int h = in.hashOn(HASH_START, place);
            return isNext(h / 256) && isNext(h % 256);
        }

        private boolean readEnd() {
            fault = place;
            return place == in.used();
        }

        /** Works all entries out; false if some cannot be. */
        boolean workOut() {
            int ready = 0;
            for (int i = 0; i < entries; i++) {
                all[i].takeWhole();
                ready += all[i].ready ? 1 : 0;
            }
            // Each round but the last brings at least one, so there are never more than there are entries.
            int brought = 1;
            for (int round = 0; round < entries && brought > 0; round++) {
                brought = workRound();
                ready += brought;
            }
            return ready == entries;
        }

        private int workRound() {
            int brought = 0;
            for (int i = 0; i < entries; i++) {
                Entry entry = all[i];
                Item base = entry.ready ? null : baseOf(entry);
                if (base != null && Difference.apply(base.bytes(), entry.unpacked, entry.item.bytes())) {
                    entry.item.finish(base.sort());
                    entry.ready = true;
                    brought++;
                }
            }
            return brought;
        }

        private Item baseOf(Entry entry) {
            if (entry.sort == SORT_BACK) {
                Entry base = all[entry.base];
                return base.ready ? base.item : null;
            }
            for (int i = 0; i < entries; i++) {
                if (all[i].ready && all[i].item.id() == entry.base) {
                    return all[i].item;
                }
            }
            int held = shelf.find(entry.base);
            return held < 0 ? null : shelf.get(held);
        }

        /** Whether each object is well formed and shares its ID with no other object. */
        boolean isSound() {
            for (int i = 0; i < entries; i++) {
                if (!all[i].item.isWellFormed() || isClashing(i)) {
                    return false;
                }
            }
            return true;
        }

        private boolean isClashing(int i) {
            Item item = all[i].item;
            for (int j = 0; j < i; j++) {
                if (item.clashesWith(all[j].item)) {
                    return true;
                }
            }
            int held = shelf.find(item.id());
            return held >= 0 && item.clashesWith(shelf.get(held));
        }

        int newItems() {
            int fresh = 0;
            for (int i = 0; i < entries; i++) {
                fresh += isNew(i) ? 1 : 0;
            }
            return fresh;
        }

        private boolean isNew(int i) {
            int id = all[i].item.id();
            for (int j = 0; j < i; j++) {
                if (all[j].item.id() == id) {
                    return false;
                }
            }
            return shelf.find(id) < 0;
        }

        int keepNew() {
            int before = shelf.held();
            for (int i = 0; i < entries; i++) {
                Item item = all[i].item;
                if (shelf.find(item.id()) < 0) {
                    shelf.keep(item);
                }
            }
            return shelf.held() - before;
        }
    }
}
