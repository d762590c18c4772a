/** Promises 1 to 6: a new object, and the buffer. */
public final class BufferTest {
    public static void main(String[] args) {
        newObject();
        putting();
        filling();
        setting();
        cutting();
        Checks.end();
    }

    private static void newObject() {
        Run x = new Run();
        Checks.due("new size()", x.size(), 0);
        Checks.due("new at(0)", x.at(0), -1);
        Checks.due("new count(0)", x.count(0), 0);
        Checks.due("new count(1)", x.count(1), 0);
        for (int r = 0; r < 4; r++) {
            Checks.due("new ref", x.ref(r), -1);
        }
        Checks.due("new kind of 0", x.kind(0, 0), 0);
        Checks.due("new length of 0", x.length(1, 0), -1);
        Checks.due("new closure of 0", x.closure(0, 0), -1);
        Checks.due("new serve()", x.serve(), -1);
        Checks.due("new forget()", x.forget(), 0);
        for (int id = 0; id < 8; id++) {
            Checks.due("new have", x.have(id), true);
        }
    }

    private static void putting() {
        Run x = new Run();
        Checks.due("put 4", x.put(0x81020384, 4), true);
        Checks.due("put 3", x.put(0x81F20384, 3), true);
        Checks.due("put 2", x.put(-1, 2), true);
        Checks.due("put 1", x.put(0x1234, 1), true);
        Checks.due("the bytes put", Checks.buffer(x),
            0x81, 2, 3, 0x84, 0xF2, 3, 0x84, 255, 255, 0x34);
        int[] wrong = {0, -1, 5, Integer.MIN_VALUE, Integer.MAX_VALUE};
        for (int n : wrong) {
            Checks.due("put of n bytes " + n, x.put(7, n), false);
        }
        Checks.due("size", x.size(), 10);
        Checks.due("at(-1)", x.at(-1), -1);
        Checks.due("at(10)", x.at(10), -1);
        Checks.due("at(500)", x.at(500), -1);
        Checks.due("at(MIN)", x.at(Integer.MIN_VALUE), -1);
        Checks.due("at(MAX)", x.at(Integer.MAX_VALUE), -1);
    }

    private static void filling() {
        Run x = new Run();
        for (int i = 0; i < 124; i++) {
            Checks.due("put " + i, x.put(i, 4), true);
        }
        Checks.due("put to 499", x.put(0x010203, 3), true);
        Checks.due("size", x.size(), 499);
        for (int n = 2; n <= 4; n++) {
            Checks.due("put beyond 500", x.put(9, n), false);
        }
        Checks.due("size stays", x.size(), 499);
        Checks.due("put to 500", x.put(77, 1), true);
        Checks.due("size", x.size(), 500);
        Checks.due("put to 501", x.put(77, 1), false);
        Checks.due("at(499)", x.at(499), 77);
        Checks.due("at(500)", x.at(500), -1);
        Checks.due("cut(497)", x.cut(497), true);
        Checks.due("put to 501 again", x.put(5, 4), false);
        Checks.due("put to 500 again", x.put(0x0A0B0C, 3), true);
        Checks.due("at(497)", x.at(497), 10);
    }

    private static void setting() {
        Run x = new Run();
        Checks.due("set in an empty buffer", x.set(0, 1), false);
        x.put(0x010203, 3);
        Checks.due("set(0, 255)", x.set(0, 255), true);
        Checks.due("set(2, 0)", x.set(2, 0), true);
        Checks.due("set(3, 1)", x.set(3, 1), false);
        Checks.due("set(-1, 1)", x.set(-1, 1), false);
        Checks.due("set(MAX, 1)", x.set(Integer.MAX_VALUE, 1), false);
        Checks.due("set(MIN, 1)", x.set(Integer.MIN_VALUE, 1), false);
        Checks.due("set(1, 256)", x.set(1, 256), false);
        Checks.due("set(1, -1)", x.set(1, -1), false);
        Checks.due("set(1, MIN)", x.set(1, Integer.MIN_VALUE), false);
        Checks.due("the bytes set", Checks.buffer(x), 255, 2, 0);
    }

    private static void cutting() {
        Run x = new Run();
        Checks.due("cut(0) of none", x.cut(0), true);
        Checks.due("cut(1) of none", x.cut(1), false);
        x.put(0x01020304, 4);
        Checks.due("cut(5)", x.cut(5), false);
        Checks.due("cut(-1)", x.cut(-1), false);
        Checks.due("cut(MIN)", x.cut(Integer.MIN_VALUE), false);
        Checks.due("cut(MAX)", x.cut(Integer.MAX_VALUE), false);
        Checks.due("cut(4)", x.cut(4), true);
        Checks.due("all left", Checks.buffer(x), 1, 2, 3, 4);
        Checks.due("cut(2)", x.cut(2), true);
        Checks.due("two left", Checks.buffer(x), 1, 2);
        Checks.due("at(2)", x.at(2), -1);
        Checks.due("set(2, 3)", x.set(2, 3), false);
        Checks.due("cut(3)", x.cut(3), false);
        Checks.due("put behind the cut", x.put(9, 1), true);
        Checks.due("put after cut", Checks.buffer(x), 1, 2, 9);
    }
}
