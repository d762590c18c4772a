/** Promises 1 to 6 at their edges: one test for each sentence of the document that names one. */
public final class BufferEdgesTest {
    private static final int ROOM = 500;
    private static final int MIN = Integer.MIN_VALUE;
    private static final int MAX = Integer.MAX_VALUE;

    public static void main(String[] args) {
        newObject();
        putLowestBytes();
        putWrongNumber();
        putUpToTheRoom();
        setByte();
        setWhereNoneIs();
        setWrongByte();
        cutToFirst();
        cutTooMany();
        cutBelowZero();
        sizeFromEmptyToFull();
        atByte();
        atWhereNoneIs();
        Checks.end();
    }

    /** "Both sides and the buffer are empty; no refs, wants and haves." */
    private static void newObject() {
        Run x = new Run();
        x.idle("the buffer's size", 0, PackStore::size);
        x.idle("its byte 0", -1, y -> y.at(0));
        x.idle("the server's objects", 0, y -> y.count(0));
        x.idle("the client's objects", 0, y -> y.count(1));
        for (int i = 0; i < 4; i++) {
            int r = i;
            x.idle("ref " + r, -1, y -> y.ref(r));
        }
        x.idle("no wants", -1, PackStore::serve);
        x.idle("nothing to forget", 0, PackStore::forget);
        x.idle("nothing to read", -1, PackStore::receive);
        for (int id = 0; id < 8; id++) {
            Checks.due("room for a have", x.have(id), true);
        }
        x.refuses("room for eight alone", y -> y.have(8));
        // Numbers that stand for "none" inside may not be found as IDs.
        int[] ids = {-1, 0, 65520, 65521};
        for (int id : ids) {
            x.idle("an object " + id + " of the server", 0, y -> y.kind(0, id));
            x.idle("an object " + id + " of the client", 0, y -> y.kind(1, id));
            x.refuses("a want of " + id, y -> y.want(id));
            x.refuses("a ref to " + id, y -> y.point(0, id));
        }
    }

    /** "Appends the n lowest bytes of word to the buffer, the highest of them first" */
    private static void putLowestBytes() {
        int[] words = {0, 1, 127, 128, 255, 256, 0x8000, 0xFFFF, 0x10000, 0x800000, 0x01020304, 0xFEDCBA98, MAX, MIN, -1};
        for (int word : words) {
            String digits = String.format("%08x", word);
            for (int n = 1; n <= 4; n++) {
                int[] due = new int[1 + n];
                due[0] = 77;
                for (int i = 0; i < n; i++) {
                    int place = 8 - 2 * n + 2 * i;
                    due[1 + i] = Integer.parseInt(digits.substring(place, place + 2), 16);
                }
                Run x = new Run();
                x.put(77, 1);
                Checks.due("put of " + digits, x.put(word, n), true);
                Checks.due(n + " bytes of " + digits, Checks.buffer(x), due);
            }
        }
    }

    /** "false, refused, if n is not 1 .. 4" */
    private static void putWrongNumber() {
        int[] wrong = {0, 5, -1, -4, 8, 256, 257, MIN, MIN + 1, MAX};
        for (int n : wrong) {
            Checks.busy().refuses("put of " + n + " bytes", y -> y.put(0x01020304, n));
            new Run().refuses("put of " + n + " bytes in an empty buffer", y -> y.put(0x01020304, n));
        }
        for (int n = 1; n <= 4; n++) {
            Run x = Checks.busy();
            Checks.due("put of " + n + " bytes", x.put(0x01020304, n), true);
            Checks.due("size", x.size(), 3 + n);
        }
    }

    /** "or more than 500 would be there"; "THE BUFFER holds at most 500 bytes." */
    private static void putUpToTheRoom() {
        for (int used = ROOM - 5; used <= ROOM; used++) {
            for (int i = 1; i <= 4; i++) {
                int n = i;
                Run x = Checks.filled(used);
                if (used + n > ROOM) {
                    x.refuses("put of " + n + " behind " + used, y -> y.put(-1, n));
                    continue;
                }
                Checks.due("put of " + n + " behind " + used, x.put(-1, n), true);
                Checks.due("size", x.size(), used + n);
                Checks.due("the last byte", x.at(used + n - 1), 255);
            }
        }
        Run x = Checks.filled(ROOM);
        Checks.due("a cut of the full buffer", x.cut(ROOM - 1), true);
        x.refuses("put of two for one", y -> y.put(0x0102, 2));
        Checks.due("put of one for one", x.put(1, 1), true);
        x.refuses("put of one in a full buffer", y -> y.put(1, 1));
    }

    /** "Byte p of the buffer becomes b" */
    private static void setByte() {
        int[] values = {0, 1, 127, 128, 254, 255};
        for (int b : values) {
            for (int p = 0; p < 3; p++) {
                Run x = Checks.busy();
                int[] due = {9, 8, 7};
                due[p] = b;
                Checks.due("set of byte " + p, x.set(p, b), true);
                Checks.due("byte " + p + " and the others", Checks.buffer(x), due);
            }
        }
        Run x = Checks.filled(ROOM);
        Checks.due("the last byte of a full buffer", x.set(ROOM - 1, 200), true);
        Checks.due("is set", x.at(ROOM - 1), 200);
    }

    /** "false if there is none" */
    private static void setWhereNoneIs() {
        int[] wrong = {-1, 3, 4, ROOM - 1, ROOM, MIN, MAX};
        for (int p : wrong) {
            Checks.busy().refuses("set of byte " + p + " of three", y -> y.set(p, 1));
        }
        new Run().refuses("set of byte 0 of none", y -> y.set(0, 1));
        Checks.filled(ROOM).refuses("set of byte 500 of 500", y -> y.set(ROOM, 1));
        Checks.filled(ROOM - 1).refuses("set of byte 499 of 499", y -> y.set(ROOM - 1, 1));
        Run x = Checks.busy();
        x.cut(2);
        x.refuses("set of a byte that was cut off", y -> y.set(2, 1));
    }

    /** "or b is not 0 .. 255" */
    private static void setWrongByte() {
        int[] wrong = {-1, 256, 257, 511, -128, -256, MIN, MAX};
        for (int b : wrong) {
            Checks.busy().refuses("set to " + b, y -> y.set(1, b));
            Checks.busy().refuses("set to " + b + " where none is", y -> y.set(3, b));
        }
    }

    /** "Only the first n bytes of the buffer are left" */
    private static void cutToFirst() {
        int[] all = {9, 8, 7};
        for (int n = 0; n <= 3; n++) {
            Run x = Checks.busy();
            Checks.due("cut to " + n, x.cut(n), true);
            Checks.due("what is left of it", Checks.buffer(x), java.util.Arrays.copyOf(all, n));
            Checks.due("put behind it", x.put(5, 1), true);
            Checks.due("the byte put", x.at(n), 5);
            Checks.due("nothing old behind it", x.at(n + 1), -1);
        }
        Checks.busy().idle("a cut to all", 1, y -> y.cut(3) ? 1 : 0);
        new Run().idle("a cut of none to none", 1, y -> y.cut(0) ? 1 : 0);
        Checks.filled(ROOM).idle("a cut of 500 to 500", 1, y -> y.cut(ROOM) ? 1 : 0);
        Run x = Checks.filled(ROOM);
        Checks.due("a cut of 500 to 0", x.cut(0), true);
        Checks.due("nothing is left", x.size(), 0);
    }

    /** "false if there are not so many" */
    private static void cutTooMany() {
        int[] wrong = {4, 5, ROOM, ROOM + 1, MAX};
        for (int n : wrong) {
            Checks.busy().refuses("a cut of three to " + n, y -> y.cut(n));
        }
        new Run().refuses("a cut of none to 1", y -> y.cut(1));
        Checks.filled(ROOM).refuses("a cut of 500 to 501", y -> y.cut(ROOM + 1));
        Checks.filled(ROOM - 1).refuses("a cut of 499 to 500", y -> y.cut(ROOM));
    }

    /** "or n is below 0" */
    private static void cutBelowZero() {
        int[] wrong = {-1, -2, -3, -ROOM, MIN};
        for (int n : wrong) {
            Checks.busy().refuses("a cut of three to " + n, y -> y.cut(n));
            new Run().refuses("a cut of none to " + n, y -> y.cut(n));
        }
    }

    /** "The number of bytes of the buffer." */
    private static void sizeFromEmptyToFull() {
        for (int n = 0; n <= ROOM; n++) {
            Run x = Checks.filled(n);
            Checks.due("size", x.size(), n);
        }
        Checks.filled(0).idle("size of an empty buffer", 0, PackStore::size);
        Checks.filled(1).idle("size of one byte", 1, PackStore::size);
        Checks.filled(ROOM - 1).idle("size of 499 bytes", ROOM - 1, PackStore::size);
        Checks.filled(ROOM).idle("size of a full buffer", ROOM, PackStore::size);
    }

    /** "Byte p of the buffer" */
    private static void atByte() {
        Run x = Checks.busy();
        x.idle("the first byte", 9, y -> y.at(0));
        x.idle("the second byte", 8, y -> y.at(1));
        x.idle("the last byte", 7, y -> y.at(2));
        Run full = Checks.filled(ROOM - 1);
        full.put(201, 1);
        full.idle("the last byte of a full buffer", 201, y -> y.at(ROOM - 1));
    }

    /** "-1 if there is none." */
    private static void atWhereNoneIs() {
        int[] wrong = {-1, 3, 4, ROOM - 1, ROOM, MIN, MAX};
        for (int p : wrong) {
            Checks.busy().idle("byte " + p + " of three", -1, y -> y.at(p));
        }
        new Run().idle("byte 0 of none", -1, y -> y.at(0));
        Checks.filled(ROOM).idle("byte 500 of 500", -1, y -> y.at(ROOM));
        Checks.filled(ROOM - 1).idle("byte 499 of 499", -1, y -> y.at(ROOM - 1));
        Run x = Checks.busy();
        x.cut(1);
        x.idle("a byte that was cut off", -1, y -> y.at(1));
    }
}
