/** What all calls have in common, and promises 1 to 5: a new object, add, at, set, clear. */
public final class WorkTest {
    private static final Checks CHECKS = new Checks();
    private static final int[] FAR_OUT = {Integer.MIN_VALUE, Integer.MIN_VALUE + 1, -256, -2, -1,
        256, 257, 512, 65536, 1 << 24, Integer.MAX_VALUE};

    public static void main(String[] args) {
        tell(CHECKS);
        CHECKS.finish();
    }

    static void tell(Telling doc) {
        doc.part("What it is");
        doc.says("A desk for packets and their wrappings: headers of several sorts, packing of runs, "
            + "a cipher with feedback, keys made of words, public keys and signatures, "
            + "and letters for the road with a checksum.", WorkTest::wrappings);
        doc.says("An object is used for at most 512 calls after it has been made;", WorkTest::lastCalls);
        doc.says("what later calls answer is free.", WorkTest::lastRefusals);

        doc.part("Terms");
        doc.says("All work on one row of bytes.", WorkTest::oneRow);
        doc.says("THE WORK is a row of at most 120 BYTES (0..255).", WorkTest::mostBytes);
        doc.says("Calls that change it answer its new length;", WorkTest::newLengths);
        doc.says("FULL if that would be above 120,", WorkTest::full);

        doc.part("Promise 1: A new object");
        doc.says("An empty WORK,", WorkTest::newWork);
        doc.says("no public keys.", WorkTest::newKeys);

        doc.part("Promise 2: add");
        doc.says("Adds a byte at the end.", WorkTest::addAtTheEnd);
        doc.says("BAD if it is none.", WorkTest::addNoByte);

        doc.part("Promise 3: at");
        doc.says("Byte k of the WORK;", WorkTest::at);
        doc.says("-1 if there is none.", WorkTest::atNone);

        doc.part("Promise 4: set");
        doc.says("Changes byte k: the old one;", WorkTest::set);
        doc.says("BAD if there is none", WorkTest::setNone);
        doc.says("or v is no byte.", WorkTest::setNoByte);

        doc.part("Promise 5: clear");
        doc.says("Empties the WORK;", WorkTest::clearEmpties);
        doc.says("how long it was.", WorkTest::clearLengths);
    }

    private static void wrappings() {
        PacketDesk x = Checks.desk(77, 77, 77, 77);
        CHECKS.due("pack()", x.pack(), 2);
        CHECKS.due("key(0, 10007, 10009, 7)", x.key(0, 10007, 10009, 7), 0);
        CHECKS.due("sign(0)", x.sign(0), 6);
        CHECKS.due("wrap(1, 2)", x.wrap(1, 2), 11);
        CHECKS.due("encipher(305419896, 42)", x.encipher(0x12345678, 42), 17);
        CHECKS.due("letters()", x.letters(), 29);
        CHECKS.due("plain()", x.plain(), 17);
        CHECKS.due("decipher(305419896)", x.decipher(0x12345678), 11);
        CHECKS.due("unwrap()", x.unwrap(), 1);
        CHECKS.due("verify(0)", x.verify(0), 2);
        CHECKS.due("unpack()", x.unpack(), 4);
        CHECKS.holds("all taken off again", x, 77, 77, 77, 77);
    }

    private static void lastCalls() {
        PacketDesk x = new PacketDesk();
        for (int calls = 0; calls < 500; calls += 2) {
            CHECKS.due("encipher, call " + calls, x.encipher(calls, 1), 6);
            CHECKS.due("clear, call " + calls, x.clear(), 6);
        }
        CHECKS.due("call 501, add", x.add(5), 1);
        CHECKS.due("call 502, add", x.add(5), 2);
        CHECKS.due("call 503, add", x.add(5), 3);
        CHECKS.due("call 504, pack", x.pack(), 2);
        CHECKS.due("call 505, unpack", x.unpack(), 3);
        CHECKS.due("call 506, key", x.key(2, 257, 263, 5), 0);
        CHECKS.due("call 507, sign", x.sign(2), 7);
        CHECKS.due("call 508, verify", x.verify(2), 3);
        CHECKS.due("call 509, letters", x.letters(), 9);
        CHECKS.due("call 510, plain", x.plain(), 3);
        CHECKS.due("call 511, wrap", x.wrap(15, 8), 4);
        CHECKS.due("call 512, unwrap", x.unwrap(), 15);
    }

    /** All that comes before is not free, be it refused or not. */
    private static void lastRefusals() {
        PacketDesk x = Checks.desk(Checks.climbing(120));
        for (int call = 121; call <= 510; call++) {
            CHECKS.due("add, call " + call, x.add(1), PacketDesk.FULL);
        }
        CHECKS.due("call 511, at(119)", x.at(119), Checks.climbing(120)[119]);
        CHECKS.due("call 512, clear", x.clear(), 120);
    }

    private static void oneRow() {
        PacketDesk x = Checks.desk(1, 2);
        PacketDesk y = Checks.desk(3);
        x.wrap(1, 8);
        CHECKS.holds("the first object", x, 135, 1, 2);
        CHECKS.holds("the second object", y, 3);
        x.set(1, 9);
        x.add(9);
        CHECKS.due("pack of what wrap, set and add left", x.pack(), 5);
        CHECKS.holds("pack of what wrap, set and add left", x, 3, 135, 9, 2, 9);
        CHECKS.due("unpack", x.unpack(), 4);
        CHECKS.due("unwrap of what unpack left", x.unwrap(), 1);
        CHECKS.holds("unwrap of what unpack left", x, 9, 2, 9);
    }

    private static void mostBytes() {
        int[] most = new int[120];
        for (int start = 0; start <= 136; start += 68) {
            PacketDesk x = new PacketDesk();
            for (int i = 0; i < 120; i++) {
                most[i] = start + i;
                CHECKS.due("add(" + most[i] + ")", x.add(most[i]), i + 1);
            }
            CHECKS.due("add to 120", x.add(start), PacketDesk.FULL);
            CHECKS.holds("120 bytes", x, most);
        }
        CHECKS.due("the last byte is the highest", most[119], 255);
    }

    private static void lengthIs(String call, PacketDesk x, int answer, int want) {
        CHECKS.due(call, answer, want);
        CHECKS.due("bytes after " + call, Checks.bytesOf(x).length, want);
    }

    private static void newLengths() {
        PacketDesk x = Checks.desk(7, 7, 7, 7);
        lengthIs("add(8)", x, x.add(8), 5);
        lengthIs("pack()", x, x.pack(), 4);
        lengthIs("unpack()", x, x.unpack(), 5);
        PacketDesk y = Checks.desk(7, 7, 7, 7, 8);
        lengthIs("encipher(1, 2)", y, y.encipher(1, 2), 11);
        lengthIs("decipher(1)", y, y.decipher(1), 5);
        PacketDesk z = Checks.desk(7, 7, 7, 7, 8);
        z.key(0, 257, 263, 5);
        lengthIs("sign(0)", z, z.sign(0), 9);
        lengthIs("verify(0)", z, z.verify(0), 5);
        PacketDesk w = Checks.desk(7, 7, 7, 7, 8);
        lengthIs("letters()", w, w.letters(), 13);
        lengthIs("plain()", w, w.plain(), 5);
        int[] lengths = {7, 12, 9, 8, 7, 7, 7, 8, 6};
        for (int sort = 0; sort <= 8; sort++) {
            PacketDesk v = Checks.desk(7, 7, 7, 7, 8);
            lengthIs("wrap(1, " + sort + ")", v, v.wrap(1, sort), lengths[sort]);
        }
    }

    private static void full() {
        PacketDesk x = Checks.desk(Checks.climbing(119));
        CHECKS.due("add to 119", x.add(1), 120);
        CHECKS.due("add to 120", x.add(1), PacketDesk.FULL);
        // The greatest length that each sort can wrap, and the length that comes of it.
        int[][] sorts = {{117, 120}, {59, 120}, {79, 120}, {95, 120}, {105, 120}, {111, 119},
            {118, 120}, {117, 120}, {119, 120}};
        for (int sort = 0; sort <= 8; sort++) {
            int most = sorts[sort][0];
            CHECKS.due("wrap of " + most, Checks.desk(Checks.climbing(most)).wrap(1, sort), sorts[sort][1]);
            for (int length = most + 1; length <= 120; length++) {
                CHECKS.due("wrap of " + length + ", sort " + sort,
                    Checks.desk(Checks.climbing(length)).wrap(1, sort), PacketDesk.FULL);
            }
        }
        for (int length = 0; length <= 120; length++) {
            int rows = (length + 63) / 64;
            fullAbove("pack", length + rows, Checks.desk(Checks.climbing(length)).pack());
            fullAbove("encipher", length + 6, Checks.desk(Checks.climbing(length)).encipher(1, 2));
            fullAbove("letters", (length + 2) / 3 * 4 + 5, Checks.desk(Checks.climbing(length)).letters());
            PacketDesk y = Checks.desk(Checks.climbing(length));
            y.key(1, 257, 263, 5);
            fullAbove("sign", length + 4, y.sign(1));
        }
        for (int n = 0; n < 64; n++) {
            fullAbove("unpack", 66 + n + 3, Checks.desk(191, 1, 128 + n, 2).unpack());
            int[] literal = Checks.join(Checks.row(191, 1, n), Checks.climbing(n + 1));
            fullAbove("unpack", 66 + n + 1, Checks.desk(literal).unpack());
        }
    }

    private static void fullAbove(String call, int length, int answer) {
        CHECKS.due(call + " to " + length, answer, length > 120 ? PacketDesk.FULL : length);
    }

    private static void newWork() {
        PacketDesk x = new PacketDesk();
        for (int k = -1; k <= 120; k++) {
            CHECKS.due("new at(" + k + ")", x.at(k), -1);
        }
        CHECKS.due("new hash()", x.hash(), 447841614);
        CHECKS.due("new set(0, 0)", x.set(0, 0), PacketDesk.BAD);
        CHECKS.due("new unwrap()", x.unwrap(), PacketDesk.SHORT);
        CHECKS.due("new pack()", x.pack(), 0);
        CHECKS.due("new unpack()", x.unpack(), 0);
        CHECKS.due("new decipher(0)", x.decipher(0), PacketDesk.SHORT);
        CHECKS.due("new plain()", x.plain(), PacketDesk.SHORT);
        CHECKS.due("new clear()", x.clear(), 0);
        CHECKS.due("new add(0)", x.add(0), 1);
    }

    private static void newKeys() {
        PacketDesk x = Checks.desk(0, 0, 0, 0);
        for (int k = -1; k <= 3; k++) {
            CHECKS.due("new raise(" + k + ", 0, false)", x.raise(k, 0, false), PacketDesk.BAD);
            CHECKS.due("new raise(" + k + ", 0, true)", x.raise(k, 0, true), PacketDesk.BAD);
            CHECKS.due("new sign(" + k + ")", x.sign(k), PacketDesk.BAD);
            CHECKS.due("new verify(" + k + ")", x.verify(k), PacketDesk.BAD);
        }
        PacketDesk other = new PacketDesk();
        other.key(0, 257, 263, 5);
        CHECKS.due("another object's key", x.sign(0), PacketDesk.BAD);
        CHECKS.due("a later object's key", Checks.desk(1).sign(0), PacketDesk.BAD);
    }

    private static void addAtTheEnd() {
        PacketDesk x = new PacketDesk();
        CHECKS.due("add(255)", x.add(255), 1);
        CHECKS.holds("add(255)", x, 255);
        CHECKS.due("add(0)", x.add(0), 2);
        CHECKS.holds("add(0)", x, 255, 0);
        CHECKS.due("add(128)", x.add(128), 3);
        CHECKS.holds("add(128)", x, 255, 0, 128);
    }

    private static void addNoByte() {
        PacketDesk x = Checks.desk(4);
        for (int b : FAR_OUT) {
            CHECKS.due("add(" + b + ")", x.add(b), PacketDesk.BAD);
        }
        CHECKS.holds("add of no byte", x, 4);
        for (int b = 0; b < 256; b++) {
            CHECKS.due("add(" + b + ")", new PacketDesk().add(b), 1);
        }
    }

    private static void at() {
        int[] most = Checks.climbing(120);
        PacketDesk x = Checks.desk(most);
        for (int k = 0; k < 120; k++) {
            CHECKS.due("at(" + k + ")", x.at(k), most[k]);
        }
        CHECKS.due("at(0) of 255", Checks.desk(255).at(0), 255);
        CHECKS.due("at(0) of 0", Checks.desk(0).at(0), 0);
    }

    private static void atNone() {
        PacketDesk full = Checks.desk(Checks.climbing(120));
        PacketDesk empty = Checks.usedDesk(7);
        PacketDesk three = Checks.usedDesk(7, 1, 2, 3);
        CHECKS.due("at(120) of 120", full.at(120), -1);
        CHECKS.due("at(-1) of 120", full.at(-1), -1);
        CHECKS.due("at(0) of none", empty.at(0), -1);
        CHECKS.due("at(2) of three", three.at(2), 3);
        CHECKS.due("at(3) of three", three.at(3), -1);
        CHECKS.due("at(119) of three", three.at(119), -1);
        for (int k : FAR_OUT) {
            CHECKS.due("at(" + k + ") of 120", full.at(k), -1);
            CHECKS.due("at(" + k + ") of none", empty.at(k), -1);
        }
    }

    private static void set() {
        int[] most = Checks.climbing(120);
        PacketDesk x = Checks.desk(most);
        for (int k = 0; k < 120; k++) {
            int v = k % 2 == 0 ? 255 : 0;
            CHECKS.due("set(" + k + ", " + v + ")", x.set(k, v), most[k]);
            CHECKS.due("set again", x.set(k, 255 - v), v);
            most[k] = 255 - v;
        }
        CHECKS.holds("set", x, most);
        PacketDesk y = Checks.desk(1, 2, 3);
        CHECKS.due("set(1, 9)", y.set(1, 9), 2);
        CHECKS.holds("set(1, 9)", y, 1, 9, 3);
    }

    private static void setNone() {
        PacketDesk full = Checks.desk(Checks.climbing(120));
        PacketDesk three = Checks.usedDesk(7, 1, 2, 3);
        CHECKS.due("set(120, 0) of 120", full.set(120, 0), PacketDesk.BAD);
        CHECKS.due("set(3, 0) of three", three.set(3, 0), PacketDesk.BAD);
        CHECKS.due("set(119, 0) of three", three.set(119, 0), PacketDesk.BAD);
        CHECKS.due("set(0, 0) of none", Checks.usedDesk(7).set(0, 0), PacketDesk.BAD);
        for (int k : FAR_OUT) {
            CHECKS.due("set(" + k + ", 0) of 120", full.set(k, 0), PacketDesk.BAD);
            CHECKS.due("set(" + k + ", 256) of 120", full.set(k, 256), PacketDesk.BAD);
        }
        CHECKS.holds("set outside 120", full, Checks.climbing(120));
        CHECKS.holds("set outside three", three, 1, 2, 3);
        CHECKS.due("add behind the three", three.add(4), 4);
        CHECKS.holds("add behind the three", three, 1, 2, 3, 4);
    }

    private static void setNoByte() {
        PacketDesk x = Checks.desk(1, 2, 3);
        for (int v : FAR_OUT) {
            CHECKS.due("set(1, " + v + ")", x.set(1, v), PacketDesk.BAD);
        }
        CHECKS.holds("set to no byte", x, 1, 2, 3);
        for (int v = 0; v < 256; v++) {
            CHECKS.due("set(1, " + v + ")", x.set(1, v), v == 0 ? 2 : v - 1);
        }
    }

    private static void clearEmpties() {
        PacketDesk x = Checks.desk(Checks.climbing(120));
        x.key(1, 257, 263, 5);
        x.clear();
        CHECKS.holds("clear", x);
        CHECKS.due("hash after clear", x.hash(), 447841614);
        CHECKS.due("set after clear", x.set(0, 1), PacketDesk.BAD);
        CHECKS.due("add after clear", x.add(4), 1);
        CHECKS.holds("add after clear", x, 4);
        CHECKS.due("the key after clear", x.raise(1, 2, false), 32);
    }

    private static void clearLengths() {
        for (int length = 0; length <= 120; length++) {
            PacketDesk x = Checks.desk(Checks.climbing(length));
            CHECKS.due("clear of " + length, x.clear(), length);
            CHECKS.due("clear again", x.clear(), 0);
        }
    }
}
