import java.util.Arrays;
import java.util.Base64;

/** LETTERS, and promises 18 and 19: letters and plain. */
public final class LettersTest {
    private static final Checks CHECKS = new Checks();
    private static final String ALPHABET =
        "ABCDEFGHIJKLMNOPQRSTUVWXYZabcdefghijklmnopqrstuvwxyz0123456789+/";

    public static void main(String[] args) {
        tell(CHECKS);
        CHECKS.finish();
    }

    static void tell(Telling doc) {
        doc.part("Terms");
        doc.says("LETTERS: three bytes are four numbers of six bits,", LettersTest::threeBytes);
        doc.says("written as the codes of A..Z, a..z, 0..9, + and / (65.., 97.., 48.., 43, 47);",
            LettersTest::codes);
        doc.says("of one or two bytes at the end (zeros being added) the first two or three numbers are written,",
            LettersTest::oneOrTwoBytes);
        doc.says("and 61 for the others.", LettersTest::padding);
        doc.says("Then 61 and four letters of the CRC:", LettersTest::tail);
        doc.says("24 bits, 11994318 at first;", LettersTest::crcOfNone);
        doc.says("for each byte b: xor b * 65536; eight times: shifted left by one, "
            + "and if bit 24 is set then xor 25578747.", LettersTest::crcs);

        doc.part("Promise 18: letters");
        doc.says("The WORK in LETTERS,", LettersTest::lettersOfWork);
        doc.says("with the CRC of its bytes.", LettersTest::crcOfWork);

        doc.part("Promise 19: plain");
        doc.says("The WORK was in LETTERS and is as before.", LettersTest::asBefore);
        doc.says("SHORT if it has less than five bytes,", LettersTest::lessThanFive);
        doc.says("or the part before the last five is no multiple of four;", LettersTest::noMultiple);
        doc.says("WRONG if the fifth from the end is not 61,", LettersTest::fifthFromTheEnd);
        doc.says("a byte is no letter", LettersTest::noLetter);
        doc.says("(61 only at the last one or two places of that part),", LettersTest::misplacedPads);
        doc.says("or the CRC differs.", LettersTest::crcDiffers);
        doc.says("(Bits that should be zeros are not looked at.)", LettersTest::looseBits);
    }

    private static void lettersTo(int[] bytes, String want) {
        PacketDesk x = Checks.usedDesk(255, bytes);
        CHECKS.due("letters to " + want, x.letters(), want.length());
        CHECKS.holds("letters to " + want, x, Checks.codes(want));
    }

    private static void plainTo(String letters, int... want) {
        PacketDesk x = Checks.desk(Checks.codes(letters));
        CHECKS.due("plain of " + letters, x.plain(), want.length);
        CHECKS.holds("plain of " + letters, x, want);
    }

    private static void refuses(int fault, int... bytes) {
        PacketDesk x = Checks.desk(bytes);
        String what = "plain of " + Arrays.toString(bytes);
        CHECKS.due(what, x.plain(), fault);
        CHECKS.holds(what, x, bytes);
    }

    private static void refuses(int fault, String letters) {
        refuses(fault, Checks.codes(letters));
    }

    private static String base64(int... bytes) {
        byte[] same = new byte[bytes.length];
        for (int i = 0; i < bytes.length; i++) {
            same[i] = (byte) bytes[i];
        }
        return Base64.getEncoder().encodeToString(same);
    }

    /** Division of the whole row as one long polynomial, another way than the program's. */
    private static int crc(int... bytes) {
        boolean[] bits = new boolean[bytes.length * 8 + 24];
        for (int i = 0; i < bytes.length * 8; i++) {
            bits[i] = (bytes[i / 8] >> (7 - i % 8) & 1) == 1;
        }
        for (int i = 0; i < 24; i++) {
            bits[i] ^= (11994318 >> (23 - i) & 1) == 1;
        }
        for (int i = 0; i < bytes.length * 8; i++) {
            if (bits[i]) {
                for (int j = 0; j <= 24; j++) {
                    bits[i + j] ^= (25578747 >> (24 - j) & 1) == 1;
                }
            }
        }
        int crc = 0;
        for (int i = bits.length - 24; i < bits.length; i++) {
            crc = crc << 1 | (bits[i] ? 1 : 0);
        }
        return crc;
    }

    private static String withCrc(String part, int... bytes) {
        int crc = crc(bytes);
        return part + "=" + base64(crc >> 16, crc >> 8 & 255, crc & 255);
    }

    private static int[] mixed(int length) {
        int[] bytes = new int[length];
        for (int i = 0; i < length; i++) {
            bytes[i] = (i * 89 + length * 31) & 255;
        }
        return bytes;
    }

    private static void threeBytes() {
        lettersTo(Checks.codes("Man"), "TWFu=DIjh");
        lettersTo(Checks.codes("123456789"), "MTIzNDU2Nzg5=Ic8C");
        for (int length = 3; length <= 84; length += 3) {
            int[] bytes = mixed(length);
            lettersTo(bytes, withCrc(base64(bytes), bytes));
        }
        for (int bit = 0; bit < 24; bit++) {
            int[] bytes = {1 << bit >> 16, 1 << bit >> 8 & 255, 1 << bit & 255};
            lettersTo(bytes, withCrc(base64(bytes), bytes));
        }
    }

    private static void codes() {
        for (int number = 0; number < 64; number++) {
            int[] bytes = {number << 2, 0, number};
            char letter = ALPHABET.charAt(number);
            String letters = letter + "AA" + letter;
            lettersTo(bytes, withCrc(letters, bytes));
            plainTo(withCrc(letters, bytes), bytes);
        }
        int[] edges = {'A', 'Z', 'a', 'z', '0', '9', '+', '/'};
        int[] numbers = {0, 25, 26, 51, 52, 61, 62, 63};
        for (int i = 0; i < edges.length; i++) {
            PacketDesk x = Checks.desk(numbers[i] << 2, 0, 0);
            x.letters();
            CHECKS.due("the code of " + numbers[i], x.at(0), edges[i]);
        }
    }

    private static void oneOrTwoBytes() {
        lettersTo(Checks.codes("Man!"), "TWFuIQ===MBvK");
        lettersTo(Checks.row(77, 97, 110, 33, 250), "TWFuIfo==GnpC");
        for (int b = 0; b < 256; b++) {
            lettersTo(Checks.row(b), withCrc(base64(b), b));
            lettersTo(Checks.row(0, b), withCrc(base64(0, b), 0, b));
            lettersTo(Checks.row(1, 2, 3, b), withCrc(base64(1, 2, 3, b), 1, 2, 3, b));
        }
        // The zeros are added whatever stood behind the end before.
        lettersTo(Checks.row(0), withCrc("AA==", 0));
        lettersTo(Checks.row(0, 0), withCrc("AAA=", 0, 0));
        lettersTo(Checks.row(255), withCrc("/w==", 255));
        lettersTo(Checks.row(255, 255), withCrc("//8=", 255, 255));
    }

    private static void padding() {
        for (int length = 0; length <= 84; length++) {
            PacketDesk x = Checks.desk(mixed(length));
            int all = x.letters();
            int pads = (3 - length % 3) % 3;
            CHECKS.due("letters of " + length, all, (length + 2) / 3 * 4 + 5);
            for (int k = 0; k < all - 5; k++) {
                boolean isPad = k >= all - 5 - pads;
                CHECKS.isTrue("place " + k + " of " + length, (x.at(k) == 61) == isPad);
            }
        }
    }

    private static void tail() {
        for (int length = 0; length <= 84; length++) {
            PacketDesk x = Checks.desk(mixed(length));
            int all = x.letters();
            int crc = crc(mixed(length));
            CHECKS.due("the 61 of " + length, x.at(all - 5), 61);
            for (int i = 0; i < 4; i++) {
                int number = crc >> (18 - 6 * i) & 63;
                CHECKS.due("CRC letter " + i + " of " + length, x.at(all - 4 + i), ALPHABET.charAt(number));
            }
            CHECKS.due("behind the CRC", x.at(all), -1);
        }
    }

    private static void crcOfNone() {
        lettersTo(Checks.row(), "=twTO");
        plainTo("=twTO");
    }

    private static void crcs() {
        CHECKS.due("the check value of this CRC in the literature", crc(Checks.codes("123456789")), 0x21CF02);
        lettersTo(Checks.codes("123456789"), "MTIzNDU2Nzg5=Ic8C");
        lettersTo(Checks.row(255, 254, 253, 252, 251, 250, 62, 63), "//79/Pv6Pj8==Ns81");
        for (int b = 0; b < 256; b++) {
            lettersTo(Checks.row(b, b, b), withCrc(base64(b, b, b), b, b, b));
        }
    }

    private static void lettersOfWork() {
        lettersTo(Checks.row(), "=twTO");
        for (int length = 0; length <= 84; length++) {
            lettersTo(mixed(length), withCrc(base64(mixed(length)), mixed(length)));
        }
        for (int length = 85; length <= 120; length++) {
            PacketDesk x = Checks.desk(mixed(length));
            CHECKS.due("letters of " + length, x.letters(), PacketDesk.FULL);
            CHECKS.holds("letters of " + length, x, mixed(length));
        }
        // Letters are bytes like others, and can be written as letters again.
        lettersTo(Checks.codes("=twTO"), withCrc(base64(Checks.codes("=twTO")), Checks.codes("=twTO")));
    }

    /** Zeros at the end count, although the letters' padding would add the same. */
    private static void crcOfWork() {
        lettersTo(Checks.row(7), withCrc("Bw==", 7));
        lettersTo(Checks.row(7, 0), withCrc("BwA=", 7, 0));
        lettersTo(Checks.row(7, 0, 0), withCrc("BwAA", 7, 0, 0));
        CHECKS.isTrue("their CRCs differ", crc(7) != crc(7, 0) && crc(7, 0) != crc(7, 0, 0));
    }

    private static void asBefore() {
        for (int length = 0; length <= 84; length++) {
            plainTo(withCrc(base64(mixed(length)), mixed(length)), mixed(length));
            PacketDesk x = Checks.desk(mixed(length));
            x.letters();
            CHECKS.due("plain after letters of " + length, x.plain(), length);
            CHECKS.holds("plain after letters of " + length, x, mixed(length));
        }
        plainTo("TWFuIfo==GnpC", 77, 97, 110, 33, 250);
        plainTo("//79/Pv6Pj8==Ns81", 255, 254, 253, 252, 251, 250, 62, 63);
    }

    /** What stands behind the end is what is missing, and must not be read. */
    private static void lessThanFive() {
        int[] whole = Checks.codes("=twTO");
        for (int length = 0; length < 5; length++) {
            PacketDesk x = Checks.desk(whole);
            x.clear();
            Checks.fill(x, Checks.first(length, whole));
            CHECKS.due("plain of " + length, x.plain(), PacketDesk.SHORT);
            CHECKS.holds("plain of " + length, x, Checks.first(length, whole));
            refuses(PacketDesk.SHORT, Checks.same(0, length));
            refuses(PacketDesk.SHORT, Checks.same(61, length));
        }
        plainTo("=twTO");
    }

    private static void noMultiple() {
        for (int length = 5; length <= 120; length++) {
            int fault = length % 4 == 1 ? PacketDesk.WRONG : PacketDesk.SHORT;
            refuses(fault, Checks.same(0, length));
            refuses(fault, Checks.same('A', length));
        }
        // The tail fits what is left of the letters.
        refuses(PacketDesk.SHORT, withCrc("A", 0));
        refuses(PacketDesk.SHORT, withCrc("AA", 0));
        refuses(PacketDesk.SHORT, withCrc("AA=", 0));
        refuses(PacketDesk.SHORT, withCrc("AAA", 0, 0));
        refuses(PacketDesk.SHORT, withCrc("AAAAAA", 0, 0, 0, 0));
        refuses(PacketDesk.SHORT, withCrc("AAAAAAA", 0, 0, 0, 0, 0));
    }

    private static void fifthFromTheEnd() {
        int[][] rows = {Checks.codes("=twTO"), Checks.codes("TWFu=DIjh"), Checks.codes("TWFuIfo==GnpC"),
            Checks.codes("TWFuIQ===MBvK")};
        for (int[] row : rows) {
            for (int code = 0; code < 256; code++) {
                int[] spoilt = row.clone();
                spoilt[row.length - 5] = code;
                if (code != 61) {
                    refuses(PacketDesk.WRONG, spoilt);
                }
            }
        }
    }

    /** The CRC fits each number that the byte might be taken for. */
    private static void noLetter() {
        for (int code = 0; code < 256; code++) {
            if (ALPHABET.indexOf(code) >= 0 || code == 61) {
                continue;
            }
            for (int number = 0; number < 64; number++) {
                int place = (code + number) % 4;
                int bits = number << (18 - 6 * place);
                int[] row = Checks.codes(withCrc("AAAA", bits >> 16, bits >> 8 & 255, bits & 255));
                row[place] = code;
                refuses(PacketDesk.WRONG, row);
            }
        }
        noLetterWhateverTheCrc();
        noLetterInTheTail();
        noLetterBeforePads();
    }

    /** As if the four letters stood for zeros, for ones, or for nothing at all. */
    private static void noLetterWhateverTheCrc() {
        for (int place = 0; place < 4; place++) {
            for (int count = 0; count <= 3; count++) {
                int[] zeros = Checks.codes(withCrc("AAAA", Checks.same(0, count)));
                zeros[place] = '.';
                refuses(PacketDesk.WRONG, zeros);
                int[] ones = Checks.codes(withCrc("////", Checks.same(255, count)));
                ones[place] = 200;
                refuses(PacketDesk.WRONG, ones);
                int[] behind = Checks.join(Checks.codes("TWFu"), ones);
                refuses(PacketDesk.WRONG, behind);
            }
        }
    }

    private static void noLetterInTheTail() {
        for (int b = 0; b < 256; b += 3) {
            int[] good = Checks.codes(withCrc(base64(b, b, 5), b, b, 5));
            for (int code = 0; code < 256; code++) {
                if (ALPHABET.indexOf(code) < 0) {
                    int[] spoilt = good.clone();
                    spoilt[5 + (b + code) % 4] = code;
                    refuses(PacketDesk.WRONG, spoilt);
                }
            }
        }
        refuses(PacketDesk.WRONG, "=twT=");
        refuses(PacketDesk.WRONG, "=tw==");
        refuses(PacketDesk.WRONG, "=====");
    }

    private static void noLetterBeforePads() {
        for (int code = 0; code < 256; code++) {
            if (ALPHABET.indexOf(code) < 0 && code != 61) {
                int[] one = Checks.codes(withCrc("AA==", 0));
                one[1] = code;
                refuses(PacketDesk.WRONG, one);
                int[] two = Checks.codes(withCrc("AAA=", 0, 0));
                two[2] = code;
                refuses(PacketDesk.WRONG, two);
                int[] behind = Checks.codes(withCrc("AAA=", 0, 0));
                behind[3] = code;
                refuses(PacketDesk.WRONG, behind);
            }
        }
    }

    /** The CRC fits what the letters would give if the misplaced 61 were read as zeros or left out. */
    private static void misplacedPads() {
        plainTo(withCrc("AA==", 0), 0);
        plainTo(withCrc("AAA=", 0, 0), 0, 0);
        plainTo(withCrc("AAAA", 0, 0, 0), 0, 0, 0);
        plainTo(withCrc("AAAAAA==", 0, 0, 0, 0), 0, 0, 0, 0);
        plainTo(withCrc("AAAAAAA=", 0, 0, 0, 0, 0), 0, 0, 0, 0, 0);
        String[] parts = {"A===", "====", "AA=A", "=AAA", "A=AA", "=A==", "A=A=", "=AA=", "==AA", "==A=", "=A=A",
            "AA==AAAA", "AAA=AAAA", "AA==AA==", "AAAAA===", "AAAA====", "AAAAAA=A", "AAA=AA==", "AAA===AA",
            "=AAAAAAA", "AAAA=AAA", "AAA=====", "========"};
        for (String part : parts) {
            for (int count = 0; count <= 6; count++) {
                refuses(PacketDesk.WRONG, withCrc(part, Checks.same(0, count)));
            }
        }
    }

    private static void crcDiffers() {
        String[] rows = {"=twTO", "TWFu=DIjh", "TWFuIfo==GnpC", "TWFuIQ===MBvK"};
        for (String row : rows) {
            for (int place = row.length() - 4; place < row.length(); place++) {
                for (int number = 0; number < 64; number++) {
                    int[] spoilt = Checks.codes(row);
                    spoilt[place] = ALPHABET.charAt(number);
                    if (spoilt[place] != row.charAt(place)) {
                        refuses(PacketDesk.WRONG, spoilt);
                    }
                }
            }
        }
        for (int place = 0; place < 4; place++) {
            for (int number = 0; number < 64; number++) {
                int[] spoilt = Checks.codes("TWFu=DIjh");
                spoilt[place] = ALPHABET.charAt(number);
                if (spoilt[place] != "TWFu".charAt(place)) {
                    refuses(PacketDesk.WRONG, spoilt);
                }
            }
        }
        // The CRC of one byte more, or less, than the letters give.
        refuses(PacketDesk.WRONG, withCrc("BwA=", 7));
        refuses(PacketDesk.WRONG, withCrc("Bw==", 7, 0));
        refuses(PacketDesk.WRONG, withCrc("BwAA", 7, 0));
        refuses(PacketDesk.WRONG, "=AAAA");
    }

    private static void looseBits() {
        for (int number = 0; number < 64; number++) {
            char letter = ALPHABET.charAt(number);
            plainTo(withCrc("A" + letter + "==", number >> 4), number >> 4);
            plainTo(withCrc("AA" + letter + "=", 0, number >> 2), 0, number >> 2);
        }
        plainTo(withCrc("//==", 255), 255);
        plainTo(withCrc("///=", 255, 255), 255, 255);
        // They are not looked at, but all other bits are.
        for (int number = 0; number < 64; number++) {
            char letter = ALPHABET.charAt(number);
            if (number >> 4 != 1) {
                refuses(PacketDesk.WRONG, withCrc("A" + letter + "==", 1));
            }
            if (number >> 2 != 5) {
                refuses(PacketDesk.WRONG, withCrc("AA" + letter + "=", 0, 5));
            }
        }
    }
}
