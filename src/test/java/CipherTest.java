/** Promises 12 and 13: encipher and decipher. The bytes due were reckoned apart from the program. */
public final class CipherTest {
    private static final Checks CHECKS = new Checks();

    public static void main(String[] args) {
        enciphers();
        thereAndBack();
        full();
        tooShort();
        wrong();
        CHECKS.finish();
    }

    private static void encipherTo(int key, int start, int[] bytes, int... want) {
        PacketDesk x = Checks.desk(bytes);
        String what = "encipher(" + key + ", " + start + ")";
        CHECKS.due(what, x.encipher(key, start), want.length);
        CHECKS.holds(what, x, want);
    }

    private static void enciphers() {
        encipherTo(0, 0, Checks.row(), 6, 78, 51, 92, 103, 14);
        encipherTo(-1, -1, Checks.row(1, 2, 3), 7, 206, 1, 167, 0, 4, 60, 123, 244);
        encipherTo(0x12345678, 0x0BADCAFE, Checks.same(0, 7),
            236, 124, 48, 58, 42, 166, 136, 56, 195, 54, 213, 178, 254);
        encipherTo(Integer.MIN_VALUE, Integer.MAX_VALUE, Checks.row(200), 195, 79, 134, 212, 90, 9, 142);
    }

    private static void thereAndBack() {
        for (int length = 0; length <= 114; length++) {
            int[] bytes = Checks.climbing(length);
            PacketDesk x = Checks.desk(bytes);
            int key = length * 0x9E3779B1;
            CHECKS.due("encipher", x.encipher(key, ~key), length + 6);
            CHECKS.due("decipher", x.decipher(key), length);
            CHECKS.holds("decipher", x, bytes);
        }
    }

    private static void full() {
        PacketDesk x = Checks.desk(Checks.climbing(114));
        CHECKS.due("encipher of 114", x.encipher(1, 2), 120);
        int[] b115 = Checks.climbing(115);
        PacketDesk y = Checks.desk(b115);
        CHECKS.due("encipher of 115", y.encipher(1, 2), PacketDesk.FULL);
        CHECKS.holds("encipher of 115", y, b115);
    }

    private static void tooShort() {
        for (int length = 0; length < 6; length++) {
            int[] bytes = Checks.climbing(length);
            PacketDesk x = Checks.desk(bytes);
            CHECKS.due("decipher of " + length, x.decipher(3), PacketDesk.SHORT);
            CHECKS.holds("decipher of " + length, x, bytes);
        }
    }

    private static void wrong() {
        for (int place = 0; place < 9; place++) {
            PacketDesk x = Checks.desk(1, 2, 3);
            x.encipher(0x55AA1234, 99);
            int old = x.at(place);
            x.set(place, old ^ 1);
            int[] spoilt = Checks.bytesOf(x);
            // Bytes 0 and 1 spoil the second group by the feedback, bytes behind the sixth nothing here.
            int want = place < 6 ? PacketDesk.WRONG : 3;
            CHECKS.due("decipher, byte " + place + " spoilt", x.decipher(0x55AA1234), want);
            if (want < 0) {
                CHECKS.holds("decipher WRONG", x, spoilt);
            }
        }
        PacketDesk y = Checks.desk(1, 2, 3);
        y.encipher(0x55AA1234, 99);
        CHECKS.due("decipher with another key", y.decipher(0x55AA1235), PacketDesk.WRONG);
        CHECKS.due("decipher with the key", y.decipher(0x55AA1234), 3);
    }
}
