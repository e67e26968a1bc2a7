import java.math.BigInteger;
import java.util.Arrays;

/** WORDS and HASH, and promises 10 and 11: hash and stretch. The numbers were reckoned apart. */
public final class HashTest {
    private static final Checks CHECKS = new Checks();
    private static final int HASH_OF_NONE = 447841614;

    public static void main(String[] args) {
        tell(CHECKS);
        CHECKS.finish();
    }

    static void tell(Telling doc) {
        doc.part("Terms");
        doc.says("All arithmetic on WORDS is modulo 2^32;", HashTest::modulo);
        doc.says("bytes of a word stand with the highest first.", HashTest::highestFirst);
        doc.says("HASH of bytes: h = 2166136261;", HashTest::hashOfNone);
        doc.says("for each byte b: h = (h xor b) * 16777619;", HashTest::hashOfEach);
        doc.says("at last h = h xor (h shifted right by 15, zeros coming in), times 739982445, "
            + "that xor (it shifted right by 12).", HashTest::hashAtLast);

        doc.part("Promise 10: hash");
        doc.says("The HASH of the WORK.", HashTest::hashOfWork);

        doc.part("Promise 11: stretch");
        doc.says("A key from four words: the HASH of the first count bytes (0..2000)", HashTest::stretchCounts);
        doc.says("of the endless row of the WORK's bytes, each time with the four bytes of salt before them.",
            HashTest::stretchRow);
        doc.says("0 if count is outside.", HashTest::stretchOutside);
    }

    private static void hashIs(int want, int... bytes) {
        PacketDesk x = Checks.usedDesk(77, bytes);
        CHECKS.due("hash of " + bytes.length, x.hash(), want);
        CHECKS.holds("hash of " + bytes.length, x, bytes);
    }

    private static void stretchIs(int want, int salt, int count, int... bytes) {
        PacketDesk x = Checks.usedDesk(77, bytes);
        String what = "stretch(" + salt + ", " + count + ") of " + bytes.length;
        CHECKS.due(what, x.stretch(salt, count), want);
        CHECKS.holds(what, x, bytes);
    }

    /** The same in a number without bounds, whose rest by 2^32 is taken at the end alone. */
    private static int unboundedHash(int[] bytes) {
        BigInteger h = BigInteger.valueOf(2166136261L);
        BigInteger words = BigInteger.ONE.shiftLeft(32);
        for (int b : bytes) {
            h = h.xor(BigInteger.valueOf(b)).multiply(BigInteger.valueOf(16777619));
        }
        h = h.mod(words);
        h = h.xor(h.shiftRight(15)).multiply(BigInteger.valueOf(739982445)).mod(words);
        return h.xor(h.shiftRight(12)).intValue();
    }

    private static void modulo() {
        int[] lengths = {1, 2, 3, 4, 5, 60, 119, 120};
        for (int length : lengths) {
            int[] bytes = Checks.climbing(length);
            hashIs(unboundedHash(bytes), bytes);
            bytes = Checks.same(255, length);
            hashIs(unboundedHash(bytes), bytes);
        }
        // The words of the cipher too, at their ends.
        PacketDesk x = Checks.desk(0, 0);
        x.encipher(-1, -1);
        CHECKS.holds("encipher(-1, -1)", x, 7, 206, 1, 167, 0, 4, 61, 121);
    }

    private static void highestFirst() {
        stretchIs(unboundedHash(Checks.row(0xFE)), 0xFE020304, 1);
        stretchIs(unboundedHash(Checks.row(0xFE, 2)), 0xFE020304, 2);
        stretchIs(unboundedHash(Checks.row(0xFE, 2, 3)), 0xFE020304, 3);
        stretchIs(unboundedHash(Checks.row(0xFE, 2, 3, 4)), 0xFE020304, 4);
        PacketDesk x = new PacketDesk();
        x.encipher(0, 0x01020304);
        int[] first = Checks.first(4, Checks.bytesOf(x));
        CHECKS.isTrue("the start word's bytes",
            Arrays.equals(first, Checks.row(6 ^ 1, 78 ^ 2, 51 ^ 3, 92 ^ 4)));
        PacketDesk y = Checks.desk(1, 2, 3);
        y.key(0, 257, 269, 65537);
        y.sign(0);
        CHECKS.holds("the signature's bytes", y, 1, 2, 3, 0, 0, 49, 254);
    }

    private static void hashOfNone() {
        CHECKS.due("hash of a new object", new PacketDesk().hash(), HASH_OF_NONE);
        hashIs(HASH_OF_NONE);
    }

    private static void hashOfEach() {
        hashIs(1818589120, 0);
        hashIs(-598516919, 0, 0);
        hashIs(1490268285, 0, 0, 0);
        hashIs(1846009846, 255);
        hashIs(-30411120, 1, 2, 3);
        hashIs(-94376214, 3, 2, 1);
        hashIs(1823648229, Checks.codes("packet"));
        hashIs(-293176450, Checks.same(0, 120));
        hashIs(2103561840, Checks.same(255, 120));
    }

    /** The highest bit of h, and of the product, is set in some of these and not in others. */
    private static void hashAtLast() {
        hashIs(1818589120, 0);
        hashIs(-578842336, 1);
        hashIs(605872222, 68);
        hashIs(-975186544, 64);
        for (int b = 0; b < 256; b++) {
            hashIs(unboundedHash(Checks.row(b)), b);
        }
    }

    private static void hashOfWork() {
        PacketDesk x = Checks.desk(1, 2, 3);
        CHECKS.due("hash", x.hash(), -30411120);
        CHECKS.due("hash again", x.hash(), -30411120);
        CHECKS.holds("hash", x, 1, 2, 3);
        x.clear();
        CHECKS.due("hash after clear", x.hash(), HASH_OF_NONE);
        x.add(0);
        CHECKS.due("hash after add", x.hash(), 1818589120);
        x.set(0, 255);
        CHECKS.due("hash after set", x.hash(), 1846009846);
    }

    private static void stretchCounts() {
        stretchIs(HASH_OF_NONE, 0, 0, 1, 2);
        stretchIs(HASH_OF_NONE, -1, 0);
        stretchIs(-578842336, 0x01020304, 1, 9);
        stretchIs(1558487320, -2, 1999, 9, 8, 7);
        stretchIs(1038721286, -2, 2000, 9, 8, 7);
    }

    private static void stretchRow() {
        stretchIs(1722362992, 0x01020304, 4, 9);
        stretchIs(-1187536291, 0x01020304, 5, 9);
        stretchIs(2000559741, 0x01020304, 6, 9);
        // An empty WORK leaves the salt alone, over and over.
        stretchIs(1818589120, 5, 1);
        stretchIs(-1105359831, 5, 2000);
        int[] most = Checks.join(Checks.same(1, 116), Checks.same(2, 4));
        stretchIs(-662362517, 5, 123, most);
        stretchIs(-405608370, 5, 124, most);
        stretchIs(938302105, 5, 125, most);
        stretchIs(-1161064505, 5, 2000, most);
        for (int length = 0; length <= 5; length++) {
            int[] unit = Checks.join(Checks.row(255, 0, 128, 1), Checks.climbing(length));
            for (int count = 0; count <= 40; count++) {
                int[] endless = new int[count];
                for (int i = 0; i < count; i++) {
                    endless[i] = unit[i % unit.length];
                }
                stretchIs(unboundedHash(endless), 0xFF008001, count, Checks.climbing(length));
            }
        }
    }

    private static void stretchOutside() {
        int[] counts = {-1, 2001, -2, 2002, -2000, 4096, 65536, Integer.MIN_VALUE, Integer.MIN_VALUE + 1,
            Integer.MAX_VALUE};
        for (int count : counts) {
            stretchIs(0, 77, count, 1, 2, 3);
            stretchIs(0, 77, count);
        }
        CHECKS.isTrue("stretch(77, 0) is not 0", new PacketDesk().stretch(77, 0) != 0);
        CHECKS.isTrue("stretch(77, 2000) is not 0", new PacketDesk().stretch(77, 2000) != 0);
    }
}
