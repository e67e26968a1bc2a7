import java.util.Arrays;

/** CIPHER and FEEDBACK, and promises 12 and 13: encipher and decipher. The bytes were reckoned apart. */
public final class CipherTest {
    private static final Checks CHECKS = new Checks();
    private static final int[] WORDS = {0, 1, 0xFFFF, 0x10000, -1, Integer.MIN_VALUE, 0x12345678};

    public static void main(String[] args) {
        tell(CHECKS);
        CHECKS.finish();
    }

    static void tell(Telling doc) {
        doc.part("Terms");
        doc.says("CIPHER with a key word: E(x) of a word x: the halves L (high) and R (low, 16 bits each);",
            CipherTest::halves);
        doc.says("for i = 0 .. 5: t = (R * 40503 + k_i) modulo 65536, turned left by 5 bits, "
            + "xor R shifted right by 3;", CipherTest::rounds);
        doc.says("L, R become R, L xor t; at last the word R * 65536 + L.", CipherTest::knownWords);
        doc.says("k_i: the lowest 16 bits of the key turned left by 7 i bits, xor i * 9029.",
            CipherTest::roundKeys);
        doc.says("FEEDBACK: bytes in groups of four, the last may be shorter:", CipherTest::lastGroup);
        doc.says("group j is xored with the first bytes of E(the group before it as it comes out enciphered;",
            CipherTest::groupBefore);
        doc.says("for the first 0).", CipherTest::firstGroup);

        doc.part("Promise 12: encipher");
        doc.says("Enciphers: the four bytes of a start word,", CipherTest::startWord);
        doc.says("the last two of them again,", CipherTest::lastTwoAgain);
        doc.says("and the WORK, in FEEDBACK.", CipherTest::enciphers);

        doc.part("Promise 13: decipher");
        doc.says("Deciphers.", CipherTest::deciphers);
        doc.says("SHORT if there are less than six bytes;", CipherTest::lessThanSix);
        doc.says("WRONG if the fifth and sixth byte are not the third and fourth ones again.",
            CipherTest::notAgain);
        doc.says("Else what is behind them is the WORK.", CipherTest::whatIsBehind);
    }

    private static int[] enciphered(int key, int start, int... bytes) {
        PacketDesk x = Checks.desk(bytes);
        x.encipher(key, start);
        return Checks.bytesOf(x);
    }

    private static int wordAt(int[] bytes, int from) {
        int word = 0;
        for (int i = from; i < from + 4; i++) {
            word = word * 256 + bytes[i];
        }
        return word;
    }

    /** E(x) as the desk shows it: with the right start word the first group comes out as x. */
    private static int shown(int x, int key) {
        int start = x ^ wordAt(enciphered(key, 0), 0);
        int[] out = enciphered(key, start, 0, 0);
        CHECKS.due("the first group", wordAt(out, 0), x);
        return wordAt(out, 4) ^ (start << 16);
    }

    private static void shows(int x, int key) {
        CHECKS.due("E(" + x + ") with the key " + key, shown(x, key), reckoned(x, key));
    }

    private static int reckoned(int x, int key) {
        long left = Integer.toUnsignedLong(x) / 65536;
        long right = Integer.toUnsignedLong(x) % 65536;
        for (int i = 0; i < 6; i++) {
            long roundKey = Integer.toUnsignedLong(Integer.rotateLeft(key, 7 * i)) % 65536 ^ (i * 9029L);
            long sum = (right * 40503 + roundKey) % 65536;
            long t = (sum * 32 % 65536 + sum / 2048) ^ (right / 8);
            long next = left ^ t;
            left = right;
            right = next;
        }
        return (int) (right * 65536 + left);
    }

    private static void halves() {
        for (int bit = 0; bit < 32; bit++) {
            shows(1 << bit, 0);
            shows(~(1 << bit), 0x12345678);
        }
    }

    /** The sums pass 65536, and the products 2^31, for the halves near 65535. */
    private static void rounds() {
        for (int half = 65535; half > 65535 - 40; half--) {
            shows(half, -1);
            shows(half << 16, 0x7FFFFFFF);
            shows(half << 16 | half, 65535);
        }
        for (int half = 0; half < 65536; half += 257) {
            shows(half, 0);
        }
    }

    private static void knownWords() {
        int[] keys = {0, 1, -1, Integer.MIN_VALUE, 0x12345678};
        int[][] due = {
            {0x064e335c, 0x2882f3d3, 0xcc01573d, 0x6859ffa4, 0x8bd4de66, 0x27f39e44, 0x254a57df},
            {0xcf014967, 0x0f4a8c44, 0x6262794a, 0x3f44c737, 0x843e8f48, 0xba34cf21, 0x813f3e13},
            {0xf831fe58, 0x1910a462, 0xf3bae890, 0x87910914, 0x8b20b401, 0x33ca21df, 0x03954888},
            {0xbcb0792b, 0x2d57e1b7, 0xe5d0c90d, 0xe6754a98, 0x2940b694, 0xcc6e6c30, 0x8e054fa1},
            {0xe7d1fac4, 0xbc3cae1f, 0x5428bbcd, 0xf85124bb, 0xf9911f60, 0xf9fd43d1, 0xd350175f}};
        for (int i = 0; i < keys.length; i++) {
            for (int j = 0; j < WORDS.length; j++) {
                String what = "E(" + WORDS[j] + ") with the key " + keys[i];
                CHECKS.due(what, shown(WORDS[j], keys[i]), due[i][j]);
            }
        }
    }

    /** Each bit of the key comes round by another way; for i = 5 the turn is one of 35 bits. */
    private static void roundKeys() {
        for (int bit = 0; bit < 32; bit++) {
            for (int x : WORDS) {
                shows(x, 1 << bit);
                shows(x, ~(1 << bit));
            }
        }
    }

    private static void encipherTo(int key, int start, int[] bytes, int... want) {
        PacketDesk x = Checks.usedDesk(77, bytes);
        String what = "encipher(" + key + ", " + start + ")";
        CHECKS.due(what, x.encipher(key, start), want.length);
        CHECKS.holds(what, x, want);
    }

    /** A group cut short comes out as the same bytes of the whole group do. */
    private static void lastGroup() {
        int[] whole = {29, 220, 148, 27, 236, 195, 114, 189, 193, 214, 164, 227, 17, 90, 244, 73};
        for (int length = 0; length <= 10; length++) {
            int[] bytes = Checks.first(length, Checks.row(0, 1, 2, 3, 4, 5, 6, 7, 8, 9));
            encipherTo(7, 0x01020304, bytes, Checks.first(6 + length, whole));
        }
        int[] most = enciphered(9, 9, Checks.climbing(114));
        for (int length = 0; length <= 114; length++) {
            encipherTo(9, 9, Checks.climbing(length), Checks.first(6 + length, most));
        }
    }

    private static void groupBefore() {
        int[] bytes = Checks.climbing(114);
        int[] in = Checks.join(Checks.row(0x0B, 0xAD, 0xCA, 0xFE, 0xCA, 0xFE), bytes);
        int[] out = enciphered(0x12345678, 0x0BADCAFE, bytes);
        int[] want = new int[120];
        int before = 0;
        for (int group = 0; group < 120; group += 4) {
            int word = wordAt(in, group) ^ reckoned(before, 0x12345678);
            for (int i = 0; i < 4; i++) {
                want[group + i] = word >>> (24 - 8 * i) & 255;
            }
            before = word;
        }
        CHECKS.isTrue("thirty groups", Arrays.equals(out, want));
        encipherTo(0x12345678, 0x0BADCAFE, Checks.same(0, 7),
            236, 124, 48, 58, 42, 166, 136, 56, 195, 54, 213, 178, 254);
    }

    private static void firstGroup() {
        for (int key : WORDS) {
            int first = wordAt(enciphered(key, 0), 0);
            CHECKS.due("the first group of 0 with the key " + key, first, reckoned(0, key));
        }
        // The calls before have no say in it.
        PacketDesk x = Checks.desk(Checks.climbing(60));
        x.encipher(5, 6);
        x.clear();
        x.encipher(0, 0);
        CHECKS.holds("encipher after another", x, 6, 78, 51, 92, 103, 14);
    }

    private static void startWord() {
        encipherTo(0, 0, Checks.row(), 6, 78, 51, 92, 103, 14);
        for (int start : WORDS) {
            int[] out = enciphered(0, start);
            CHECKS.due("bytes of " + start + " enciphered", out.length, 6);
            CHECKS.due("start " + start, wordAt(out, 0), start ^ 0x064E335C);
        }
    }

    private static void lastTwoAgain() {
        for (int start : WORDS) {
            int[] out = enciphered(0, start);
            int mask = reckoned(wordAt(out, 0), 0);
            CHECKS.due("the fifth byte", out[4] ^ (mask >>> 24), start >>> 8 & 255);
            CHECKS.due("the sixth byte", out[5] ^ (mask >>> 16 & 255), start & 255);
        }
    }

    private static void enciphers() {
        encipherTo(-1, -1, Checks.row(1, 2, 3), 7, 206, 1, 167, 0, 4, 60, 123, 244);
        encipherTo(Integer.MIN_VALUE, Integer.MAX_VALUE, Checks.row(200), 195, 79, 134, 212, 90, 9, 142);
        encipherTo(0x55AA1234, 99, Checks.row(1, 2, 3), 38, 176, 18, 212, 54, 38, 54, 61, 125);
        PacketDesk x = Checks.desk(Checks.climbing(114));
        CHECKS.due("encipher of 114", x.encipher(1, 2), 120);
        for (int length = 115; length <= 120; length++) {
            PacketDesk y = Checks.desk(Checks.climbing(length));
            CHECKS.due("encipher of " + length, y.encipher(1, 2), PacketDesk.FULL);
            CHECKS.holds("encipher of " + length, y, Checks.climbing(length));
        }
    }

    private static void decipherTo(int key, int[] bytes, int... want) {
        PacketDesk x = Checks.usedDesk(77, bytes);
        CHECKS.due("decipher(" + key + ")", x.decipher(key), want.length);
        CHECKS.holds("decipher(" + key + ")", x, want);
    }

    private static void deciphers() {
        decipherTo(-1, Checks.row(7, 206, 1, 167, 0, 4, 60, 123, 244), 1, 2, 3);
        decipherTo(0x55AA1234, Checks.row(38, 176, 18, 212, 54, 38, 54, 61, 125), 1, 2, 3);
        for (int length = 0; length <= 114; length++) {
            int key = length * 0x9E3779B1;
            decipherTo(key, enciphered(key, ~key, Checks.climbing(length)), Checks.climbing(length));
        }
    }

    /** What stands behind the end is what is missing, and must not be read. */
    private static void lessThanSix() {
        int[] whole = enciphered(3, 44);
        for (int length = 0; length < 6; length++) {
            PacketDesk x = Checks.desk(whole);
            x.clear();
            Checks.fill(x, Checks.first(length, whole));
            CHECKS.due("decipher of " + length, x.decipher(3), PacketDesk.SHORT);
            CHECKS.holds("decipher of " + length, x, Checks.first(length, whole));
        }
        decipherTo(3, whole);
    }

    private static void refuses(int key, int[] good, int fifth, int sixth) {
        int[] bytes = good.clone();
        bytes[4] ^= fifth;
        bytes[5] ^= sixth;
        PacketDesk x = Checks.desk(bytes);
        CHECKS.due("decipher, changed by " + fifth + " and " + sixth, x.decipher(key), PacketDesk.WRONG);
        CHECKS.holds("decipher, changed by " + fifth + " and " + sixth, x, bytes);
    }

    private static void notAgain() {
        int[] six = enciphered(0x55AA1234, 0x01020304);
        int[] nine = enciphered(0x55AA1234, 99, 1, 2, 3);
        for (int change = 1; change < 256; change++) {
            refuses(0x55AA1234, six, change, 0);
            refuses(0x55AA1234, six, 0, change);
            refuses(0x55AA1234, nine, change, 0);
            refuses(0x55AA1234, nine, 0, change);
            refuses(0x55AA1234, nine, change, change);
        }
        // Third and fourth in the other order, and the first two in their stead.
        refuses(0x55AA1234, six, 3 ^ 4, 3 ^ 4);
        refuses(0x55AA1234, six, 3 ^ 1, 4 ^ 2);
        for (int place = 0; place < 4; place++) {
            int[] spoilt = nine.clone();
            spoilt[place] ^= 1;
            refuses(0x55AA1234, spoilt, 0, 0);
        }
        refuses(0x55AA1235, nine, 0, 0);
        refuses(~0x55AA1234, nine, 0, 0);
    }

    private static void whatIsBehind() {
        decipherTo(8, enciphered(8, 5));
        decipherTo(8, enciphered(8, 5, 200), 200);
        decipherTo(8, enciphered(8, 5, Checks.climbing(114)), Checks.climbing(114));
        // Bytes behind the sixth are not tested: a change there comes through.
        int[] bytes = enciphered(8, 5, 1, 2, 3);
        bytes[8] ^= 64;
        decipherTo(8, bytes, 1, 2, 3 ^ 64);
    }
}
