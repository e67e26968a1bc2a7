import java.util.Arrays;
import java.util.Base64;

/** Promises 18 and 19: letters and plain. */
public final class LettersTest {
    private static final Checks CHECKS = new Checks();

    public static void main(String[] args) {
        knownLetters();
        libraryLetters();
        bytesOfBefore();
        full();
        tooShort();
        spoilt();
        pads();
        loosePadBits();
        CHECKS.finish();
    }

    private static void lettersTo(int[] bytes, String want) {
        PacketDesk x = Checks.desk(bytes);
        CHECKS.due("letters", x.letters(), want.length());
        CHECKS.holds("letters", x, Checks.codes(want));
        CHECKS.due("plain of " + want, x.plain(), bytes.length);
        CHECKS.holds("plain of " + want, x, bytes);
    }

    private static void knownLetters() {
        lettersTo(Checks.row(), "=twTO");
        lettersTo(Checks.codes("Man"), "TWFu=DIjh");
        lettersTo(Checks.codes("Man!"), "TWFuIQ===MBvK");
        lettersTo(Checks.row(77, 97, 110, 33, 250), "TWFuIfo==GnpC");
        lettersTo(Checks.row(255, 254, 253, 252, 251, 250, 62, 63), "//79/Pv6Pj8==Ns81");
        // The check value of this CRC in the literature is 21CF02 for these nine digits.
        lettersTo(Checks.codes("123456789"), "MTIzNDU2Nzg5=Ic8C");
    }

    private static void libraryLetters() {
        for (int length = 0; length <= 84; length++) {
            int[] bytes = new int[length];
            byte[] same = new byte[length];
            for (int i = 0; i < length; i++) {
                bytes[i] = (i * 89 + length * 31) & 255;
                same[i] = (byte) bytes[i];
            }
            int crc = crc(bytes);
            byte[] tail = {(byte) (crc >> 16), (byte) (crc >> 8), (byte) crc};
            Base64.Encoder encoder = Base64.getEncoder();
            lettersTo(bytes, encoder.encodeToString(same) + "=" + encoder.encodeToString(tail));
        }
        int[] all = new int[48];
        for (int i = 0; i < 64; i++) {
            int bit = i * 6;
            int shifted = i << (10 - bit % 8);
            all[bit / 8] |= shifted >> 8;
            if (bit / 8 + 1 < 48) {
                all[bit / 8 + 1] |= shifted & 255;
            }
        }
        PacketDesk x = Checks.desk(all);
        x.letters();
        String alphabet = "ABCDEFGHIJKLMNOPQRSTUVWXYZabcdefghijklmnopqrstuvwxyz0123456789+/";
        CHECKS.isTrue("all letters",
            Arrays.equals(Arrays.copyOf(Checks.bytesOf(x), 64), Checks.codes(alphabet)));
    }

    /** Division of the whole row as one long polynomial, another way than the program's. */
    private static int crc(int[] bytes) {
        boolean[] bits = new boolean[bytes.length * 8 + 24];
        for (int i = 0; i < bytes.length * 8; i++) {
            bits[i] = (bytes[i / 8] >> (7 - i % 8) & 1) == 1;
        }
        for (int i = 0; i < 24; i++) {
            bits[i] ^= (0xB704CE >> (23 - i) & 1) == 1;
        }
        for (int i = 0; i < bytes.length * 8; i++) {
            if (bits[i]) {
                for (int j = 0; j <= 24; j++) {
                    bits[i + j] ^= (0x1864CFB >> (24 - j) & 1) == 1;
                }
            }
        }
        int crc = 0;
        for (int i = bits.length - 24; i < bits.length; i++) {
            crc = crc << 1 | (bits[i] ? 1 : 0);
        }
        return crc;
    }

    /** What stood behind the end before it was cleared must not come into the letters. */
    private static void bytesOfBefore() {
        PacketDesk x = Checks.desk(Checks.same(255, 9));
        x.clear();
        x.add(0);
        x.letters();
        CHECKS.holds("letters of one byte", x, Checks.codes(withCrc("AA==", 0)));
        x.clear();
        Checks.fill(x, Checks.same(255, 9));
        x.clear();
        Checks.fill(x, 0, 0);
        x.letters();
        CHECKS.holds("letters of two bytes", x, Checks.codes(withCrc("AAA=", 0, 0)));
    }

    private static void full() {
        CHECKS.due("letters of 84", Checks.desk(Checks.climbing(84)).letters(), 117);
        int[] lengths = {85, 86, 90, 119, 120};
        for (int length : lengths) {
            int[] bytes = Checks.climbing(length);
            PacketDesk x = Checks.desk(bytes);
            CHECKS.due("letters of " + length, x.letters(), PacketDesk.FULL);
            CHECKS.holds("letters of " + length, x, bytes);
        }
    }

    private static void plainAnswers(int want, String letters) {
        PacketDesk x = Checks.desk(Checks.codes(letters));
        CHECKS.due("plain of " + letters, x.plain(), want);
        if (want < 0) {
            CHECKS.holds("plain of " + letters, x, Checks.codes(letters));
        }
    }

    private static void tooShort() {
        String[] rows = {"", "=", "=t", "=tw", "=twT", "T=DIjh", "TW=DIjh", "TWF=DIjh", "TWFuI=DIjh",
            "TWFuIfo=GnpC", "!!!!!!", "!!"};
        for (String row : rows) {
            plainAnswers(PacketDesk.SHORT, row);
        }
        for (int length = 0; length <= 120; length++) {
            PacketDesk x = Checks.desk(Checks.same(0, length));
            int want = length >= 5 && length % 4 == 1 ? PacketDesk.WRONG : PacketDesk.SHORT;
            CHECKS.due("plain of " + length + " zeros", x.plain(), want);
        }
    }

    private static void spoilt() {
        String good = "TWFuIfo==GnpC";
        for (int place = 0; place < good.length(); place++) {
            for (int code = 0; code < 256; code++) {
                PacketDesk x = Checks.desk(Checks.codes(good));
                x.set(place, code);
                // The last two bits of the letter before the 61 are not looked at.
                boolean loose = place == 6 && "opqr".indexOf(code) >= 0;
                boolean fine = code == good.charAt(place) || loose;
                int want = fine ? 5 : PacketDesk.WRONG;
                CHECKS.due("plain, place " + place + " is " + code, x.plain(), want);
            }
        }
        plainAnswers(PacketDesk.WRONG, "=AAAA");
        plainAnswers(PacketDesk.WRONG, "=twT=");
        plainAnswers(PacketDesk.WRONG, "Atwto");
    }

    private static String withCrc(String part, int... bytes) {
        int crc = crc(bytes);
        byte[] tail = {(byte) (crc >> 16), (byte) (crc >> 8), (byte) crc};
        return part + "=" + Base64.getEncoder().encodeToString(tail);
    }

    /** The CRC fits what the letters would give if the misplaced 61 were read as zeros. */
    private static void pads() {
        plainAnswers(1, withCrc("AA==", 0));
        plainAnswers(2, withCrc("AAA=", 0, 0));
        plainAnswers(3, withCrc("AAAA", 0, 0, 0));
        int[][] fits = {{}, {0}, {0, 0}, {0, 0, 0}, {0, 0, 0, 0}, {0, 0, 0, 0, 0}, {0, 0, 0, 0, 0, 0}};
        String[] parts = {"A===", "====", "AA=A", "=AAA", "A=AA", "=A==", "A=A=", "=AA=",
            "AA==AAAA", "AAA=AAAA", "AA==AA==", "AAAAA===", "AAAA====", "AAAAAA=A", "AAA=AA==", "AAA===AA"};
        for (String part : parts) {
            for (int[] bytes : fits) {
                plainAnswers(PacketDesk.WRONG, withCrc(part, bytes));
            }
        }
    }

    private static void loosePadBits() {
        String alphabet = "ABCDEFGHIJKLMNOPQRSTUVWXYZabcdefghijklmnopqrstuvwxyz0123456789+/";
        for (int i = 0; i < 64; i++) {
            String one = withCrc("A" + alphabet.charAt(i) + "==", i >> 4);
            plainAnswers(1, one);
            String two = withCrc("AA" + alphabet.charAt(i) + "=", 0, i >> 2);
            plainAnswers(2, two);
        }
        PacketDesk x = Checks.desk(Checks.codes(withCrc("//==", 255)));
        x.plain();
        CHECKS.holds("plain with loose bits", x, 255);
    }
}
