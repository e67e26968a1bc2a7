import java.math.BigInteger;
import java.util.Arrays;

/** PUBLIC KEYS, and promises 14 to 17: key, sign, verify, raise. */
public final class KeysTest {
    private static final Checks CHECKS = new Checks();
    private static final int[] NO_KEYS = {-1, 3, -2, 4, 256, 1 << 30, Integer.MIN_VALUE, Integer.MIN_VALUE + 1,
        Integer.MAX_VALUE};
    // The smallest and the greatest n, and some between; the powers at both ends of their range.
    private static final int[][] KEYS = {{257, 263, 3}, {257, 269, 65537}, {46337, 46327, 65537},
        {46327, 46337, 5}, {10007, 10009, 7}, {46337, 257, 3}, {263, 46309, 65533}};
    // The HASH of these three is a multiple of 257 * 263.
    private static final int[] HASH_OF_MULTIPLE = {1, 33, 185};

    public static void main(String[] args) {
        tell(CHECKS);
        CHECKS.finish();
    }

    static void tell(Telling doc) {
        doc.part("Terms");
        doc.says("PUBLIC KEYS 0..2 have n = p q and e;", KeysTest::moduli);
        doc.says("to RAISE a word m below n: m^e modulo n;", KeysTest::openWay);
        doc.says("the PRIVATE way is m^d, d being such that e d gives the rest 1 by (p - 1)(q - 1).",
            KeysTest::privateWay);

        doc.part("Promise 14: key");
        doc.says("Public key k gets p, q and e.", KeysTest::keyGets);
        doc.says("BAD if k is outside 0..2,", KeysTest::keyOutside);
        doc.says("p or q is no prime from 257 to 46337,", KeysTest::noPrime);
        doc.says("they are the same,", KeysTest::samePrimes);
        doc.says("or e is not from 3 to 65537", KeysTest::powerOutside);
        doc.says("or has a factor with (p - 1)(q - 1).", KeysTest::powerWithFactor);
        doc.says("Else 0.", KeysTest::goodKeys);

        doc.part("Promise 15: sign");
        doc.says("Adds the four bytes of the HASH of the WORK", KeysTest::signs);
        doc.says("(as a number from 0 on)", KeysTest::hashFromZeroOn);
        doc.says("modulo n, raised the PRIVATE way.", KeysTest::hashModulo);
        doc.says("BAD if there is no key k.", KeysTest::signNoKey);

        doc.part("Promise 16: verify");
        doc.says("The last four bytes are taken away, if RAISED they give the HASH of the rest modulo n.",
            KeysTest::verifies);
        doc.says("BAD if there is no key k;", KeysTest::verifyNoKey);
        doc.says("SHORT below four bytes;", KeysTest::verifyShort);
        doc.says("WRONG if they don't,", KeysTest::verifyWrong);
        doc.says("or are not below n.", KeysTest::verifyNotBelow);

        doc.part("Promise 17: raise");
        doc.says("A word m below n RAISED", KeysTest::raises);
        doc.says("(or the PRIVATE way):", KeysTest::raisesPrivate);
        doc.says("as a long from 0 on.", KeysTest::fromZeroOn);
        doc.says("BAD if there is no key k,", KeysTest::raiseNoKey);
        doc.says("or m (0 and above) is not below n.", KeysTest::raiseNotBelow);
    }

    private static PacketDesk deskWith(int k, int[] key, int... bytes) {
        PacketDesk x = Checks.desk(bytes);
        CHECKS.due("key(" + k + ", " + key[0] + ", " + key[1] + ", " + key[2] + ")",
            x.key(k, key[0], key[1], key[2]), 0);
        return x;
    }

    private static long modulus(int[] key) {
        return (long) key[0] * key[1];
    }

    private static BigInteger phi(int p, int q) {
        return BigInteger.valueOf(p - 1L).multiply(BigInteger.valueOf(q - 1L));
    }

    private static boolean coprime(int e, int p, int q) {
        return BigInteger.valueOf(e).gcd(phi(p, q)).equals(BigInteger.ONE);
    }

    private static long raised(int[] key, long m, boolean secret) {
        BigInteger e = BigInteger.valueOf(key[2]);
        BigInteger power = secret ? e.modInverse(phi(key[0], key[1])) : e;
        return BigInteger.valueOf(m).modPow(power, BigInteger.valueOf(modulus(key))).longValue();
    }

    private static long[] wordsBelow(int[] key) {
        long n = modulus(key);
        return new long[] {0, 1, 2, 3, key[0], key[1], key[0] * 2L, n / 2, n / 3, n - key[0], n - 2, n - 1};
    }

    private static int[] bytesOfWord(long word) {
        return Checks.row((int) (word >> 24 & 255), (int) (word >> 16 & 255), (int) (word >> 8 & 255),
            (int) (word & 255));
    }

    private static long signature(int[] key, int[] bytes) {
        long hash = Integer.toUnsignedLong(Checks.desk(bytes).hash());
        return raised(key, hash % modulus(key), true);
    }

    private static void moduli() {
        for (int k = 0; k <= 2; k++) {
            for (int[] key : KEYS) {
                PacketDesk x = deskWith(k, key);
                long n = modulus(key);
                CHECKS.due("raise of n - 1", x.raise(k, n - 1, false), n - 1);
                CHECKS.due("raise of n", x.raise(k, n, false), PacketDesk.BAD);
                CHECKS.due("raise of 2", x.raise(k, 2, false), raised(key, 2, false));
            }
        }
    }

    private static void openWay() {
        PacketDesk x = deskWith(0, KEYS[0]);
        CHECKS.due("2^3", x.raise(0, 2, false), 8);
        CHECKS.due("40^3", x.raise(0, 40, false), 64000);
        CHECKS.due("41^3 modulo 67591", x.raise(0, 41, false), 68921 - 67591);
        for (int[] key : KEYS) {
            PacketDesk y = deskWith(1, key);
            for (long m : wordsBelow(key)) {
                CHECKS.due(m + "^" + key[2], y.raise(1, m, false), raised(key, m, false));
            }
        }
    }

    private static void privateWay() {
        for (int[] key : KEYS) {
            PacketDesk x = deskWith(1, key);
            for (long m : wordsBelow(key)) {
                long there = x.raise(1, m, true);
                CHECKS.due(m + "^d", there, raised(key, m, true));
                CHECKS.due(m + "^d^e", x.raise(1, there, false), m);
                CHECKS.due(m + "^e^d", x.raise(1, x.raise(1, m, false), true), m);
            }
        }
    }

    private static void keyGets() {
        PacketDesk x = Checks.desk(1, 2);
        CHECKS.due("key 0", x.key(0, 257, 263, 5), 0);
        CHECKS.due("key 1", x.key(1, 10007, 10009, 7), 0);
        CHECKS.due("no key 2 yet", x.raise(2, 2, false), PacketDesk.BAD);
        CHECKS.due("key 2", x.key(2, 263, 269, 3), 0);
        CHECKS.due("raise with 0", x.raise(0, 2, false), 32);
        CHECKS.due("raise with 1", x.raise(1, 2, false), 128);
        CHECKS.due("raise with 2", x.raise(2, 2, false), 8);
        CHECKS.due("another key 0", x.key(0, 46337, 46327, 11), 0);
        CHECKS.due("raise with the new 0", x.raise(0, 3, false), 177147);
        CHECKS.due("its n", x.raise(0, 46337L * 46327 - 1, false), 46337L * 46327 - 1);
        CHECKS.due("back by the new 0", x.raise(0, 177147, true), 3);
        CHECKS.due("raise with 1 as before", x.raise(1, 2, false), 128);
        CHECKS.due("raise with 2 as before", x.raise(2, 2, false), 8);
        CHECKS.holds("key", x, 1, 2);
    }

    private static void keyOutside() {
        PacketDesk x = new PacketDesk();
        for (int k : NO_KEYS) {
            CHECKS.due("key(" + k + ", ..)", x.key(k, 257, 263, 5), PacketDesk.BAD);
        }
        for (int k = 0; k <= 2; k++) {
            CHECKS.due("no key came of it", x.raise(k, 0, false), PacketDesk.BAD);
        }
        for (int k = 0; k <= 2; k++) {
            CHECKS.due("key(" + k + ", ..)", x.key(k, 257, 263, 5), 0);
        }
    }

    /** All numbers from below the first prime to above the last one, in both places. */
    private static void noPrime() {
        for (int from = -300; from < 47300; from += 200) {
            PacketDesk x = new PacketDesk();
            for (int p = from; p < from + 200; p++) {
                boolean prime = p >= 257 && p <= 46337 && BigInteger.valueOf(p).isProbablePrime(40);
                int other = p == 263 ? 257 : 263;
                // 17 may have a factor with p - 1; 19 then serves, and neither has one with 256 or 262.
                int e = p > 0 && (p - 1) % 17 == 0 ? 19 : 17;
                int want = prime && (p - 1) % (17 * 19) != 0 ? 0 : PacketDesk.BAD;
                CHECKS.due("key with p " + p, x.key(0, p, other, e), want);
                CHECKS.due("key with q " + p, x.key(0, other, p, e), want);
            }
        }
        PacketDesk y = new PacketDesk();
        // Primes outside the range, squares and other products of primes, and what wraps round.
        int[] others = {2, 3, 241, 251, 46349, 46351, 65537, 2147483647, 257 * 257, 257 * 263, 561, 44521, 46225,
            -257, -263, 257 - 65536, 257 + 65536, 257 + (1 << 30), Integer.MIN_VALUE, Integer.MIN_VALUE + 257};
        for (int p : others) {
            CHECKS.due("key with p " + p, y.key(1, p, 263, 5), PacketDesk.BAD);
            CHECKS.due("key with q " + p, y.key(1, 263, p, 5), PacketDesk.BAD);
            CHECKS.due("key with p and q " + p, y.key(1, p, p, 5), PacketDesk.BAD);
        }
        CHECKS.due("no key came of it", y.raise(1, 0, false), PacketDesk.BAD);
        CHECKS.due("the lowest prime as p", y.key(1, 257, 263, 5), 0);
        CHECKS.due("the lowest prime as q", y.key(1, 263, 257, 5), 0);
        CHECKS.due("the highest prime as p", y.key(1, 46337, 263, 5), 0);
        CHECKS.due("the highest prime as q", y.key(1, 263, 46337, 5), 0);
    }

    private static void samePrimes() {
        PacketDesk x = new PacketDesk();
        int[] primes = {257, 263, 10007, 46327, 46337};
        for (int p : primes) {
            CHECKS.due("key with twice " + p, x.key(0, p, p, 5), PacketDesk.BAD);
            CHECKS.due("key with twice " + p, x.key(0, p, p, 65537), PacketDesk.BAD);
        }
        CHECKS.due("no key came of it", x.raise(0, 0, false), PacketDesk.BAD);
    }

    private static void powerOutside() {
        PacketDesk x = new PacketDesk();
        // 1, 65539 and most of the others have no factor with 256 * 262, so only the range refuses them.
        int[] powers = {2, 1, 0, -1, -3, -5, -65537, 65538, 65539, 65541, 1000003, 3 + 65536 * 2, 3 - 65536,
            Integer.MIN_VALUE, Integer.MIN_VALUE + 3, Integer.MAX_VALUE};
        for (int e : powers) {
            CHECKS.due("key with e " + e, x.key(0, 257, 263, e), PacketDesk.BAD);
            CHECKS.due("key with e " + e, x.key(0, 46337, 46327, e), PacketDesk.BAD);
        }
        CHECKS.due("no key came of it", x.raise(0, 0, false), PacketDesk.BAD);
        CHECKS.due("key with e 3", x.key(0, 257, 263, 3), 0);
        CHECKS.due("key with e 65537", x.key(1, 257, 263, 65537), 0);
    }

    private static void powerWithFactor() {
        PacketDesk x = new PacketDesk();
        CHECKS.due("2 divides both", x.key(0, 257, 263, 4), PacketDesk.BAD);
        CHECKS.due("131 divides q - 1", x.key(0, 257, 263, 131), PacketDesk.BAD);
        CHECKS.due("131 divides p - 1", x.key(0, 263, 257, 131), PacketDesk.BAD);
        CHECKS.due("3 * 131", x.key(0, 257, 263, 393), PacketDesk.BAD);
        CHECKS.due("q - 1 itself", x.key(0, 257, 263, 262), PacketDesk.BAD);
        CHECKS.due("65536", x.key(0, 257, 263, 65536), PacketDesk.BAD);
        CHECKS.due("no key came of it", x.raise(0, 0, false), PacketDesk.BAD);
        for (int from = 3; from <= 65537; from += 500) {
            PacketDesk y = new PacketDesk();
            for (int e = from; e < from + 500 && e <= 65537; e++) {
                int want = coprime(e, 10007, 10009) ? 0 : PacketDesk.BAD;
                CHECKS.due("key with 10007, 10009 and e " + e, y.key(0, 10007, 10009, e), want);
            }
        }
    }

    private static void goodKeys() {
        for (int[] key : KEYS) {
            for (int k = 0; k <= 2; k++) {
                PacketDesk x = deskWith(k, key);
                CHECKS.due("the same key again", x.key(k, key[0], key[1], key[2]), 0);
                CHECKS.due("p and q changed about", x.key(k, key[1], key[0], key[2]), 0);
            }
        }
        CHECKS.due("an e that is no prime", new PacketDesk().key(0, 257, 263, 9), 0);
    }

    private static void signTo(int[] key, int[] bytes, long word) {
        PacketDesk x = deskWith(1, key, bytes);
        CHECKS.due("sign of " + bytes.length, x.sign(1), bytes.length + 4);
        CHECKS.holds("sign of " + bytes.length, x, Checks.join(bytes, bytesOfWord(word)));
    }

    private static void signs() {
        int[] key = {10007, 46337, 3};
        for (int length = 0; length <= 116; length++) {
            int[] bytes = Checks.climbing(length);
            signTo(key, bytes, signature(key, bytes));
        }
        for (int length = 117; length <= 120; length++) {
            PacketDesk x = deskWith(1, key, Checks.climbing(length));
            CHECKS.due("sign of " + length, x.sign(1), PacketDesk.FULL);
            CHECKS.holds("sign of " + length, x, Checks.climbing(length));
        }
        signTo(Checks.row(46337, 46327, 65537), Checks.row(1, 2, 3), 0x7CEE2EAC);
        signTo(Checks.row(257, 269, 65537), Checks.row(1, 2, 3), 0x000031FE);
    }

    private static void hashFromZeroOn() {
        CHECKS.due("a HASH below 0 as an int", Checks.desk(1, 2, 3).hash(), -30411120);
        for (int[] key : KEYS) {
            long digest = (4294967296L - 30411120) % modulus(key);
            signTo(key, Checks.row(1, 2, 3), raised(key, digest, true));
        }
    }

    private static void hashModulo() {
        // 1818589120 is below the greatest n, and then stays as it is.
        int[] greatest = {46337, 46327, 65537};
        CHECKS.due("a HASH below n", Checks.desk(0).hash(), 1818589120);
        signTo(greatest, Checks.row(0), raised(greatest, 1818589120, true));
        int[] smallest = {257, 263, 5};
        signTo(smallest, Checks.row(0), raised(smallest, 1818589120 % 67591, true));
        CHECKS.due("a HASH that n divides", Integer.toUnsignedLong(Checks.desk(HASH_OF_MULTIPLE).hash()) % 67591, 0);
        signTo(smallest, HASH_OF_MULTIPLE, 0);
    }

    private static void signNoKey() {
        PacketDesk x = Checks.desk(1, 2, 3);
        for (int k = 0; k <= 2; k++) {
            CHECKS.due("sign(" + k + ") without keys", x.sign(k), PacketDesk.BAD);
        }
        x.key(1, 257, 263, 5);
        CHECKS.due("sign(0) with key 1", x.sign(0), PacketDesk.BAD);
        CHECKS.due("sign(2) with key 1", x.sign(2), PacketDesk.BAD);
        for (int k : NO_KEYS) {
            CHECKS.due("sign(" + k + ")", x.sign(k), PacketDesk.BAD);
        }
        CHECKS.holds("sign without a key", x, 1, 2, 3);
        CHECKS.due("sign(1) with key 1", x.sign(1), 7);
    }

    private static void verifies() {
        for (int[] key : KEYS) {
            for (int length = 0; length <= 116; length += 4) {
                int[] bytes = Checks.climbing(length);
                PacketDesk x = deskWith(2, key, Checks.join(bytes, bytesOfWord(signature(key, bytes))));
                CHECKS.due("verify of " + length, x.verify(2), length);
                CHECKS.holds("verify of " + length, x, bytes);
            }
        }
        PacketDesk y = deskWith(0, Checks.row(257, 263, 5), 7);
        y.sign(0);
        y.sign(0);
        CHECKS.due("verify of the second", y.verify(0), 5);
        CHECKS.due("verify of the first", y.verify(0), 1);
        CHECKS.holds("both taken away", y, 7);
        PacketDesk z = deskWith(0, Checks.row(257, 263, 5), Checks.join(HASH_OF_MULTIPLE, bytesOfWord(0)));
        CHECKS.due("verify of 0, which is below n", z.verify(0), 3);
        CHECKS.holds("verify of 0", z, HASH_OF_MULTIPLE);
    }

    private static void verifyNoKey() {
        int[] key = {257, 263, 5};
        int[] bytes = Checks.join(Checks.row(7, 8), bytesOfWord(signature(key, Checks.row(7, 8))));
        PacketDesk x = Checks.desk(bytes);
        for (int k = 0; k <= 2; k++) {
            CHECKS.due("verify(" + k + ") without keys", x.verify(k), PacketDesk.BAD);
        }
        x.key(1, 257, 263, 5);
        CHECKS.due("verify(0) with key 1", x.verify(0), PacketDesk.BAD);
        CHECKS.due("verify(2) with key 1", x.verify(2), PacketDesk.BAD);
        for (int k : NO_KEYS) {
            CHECKS.due("verify(" + k + ")", x.verify(k), PacketDesk.BAD);
        }
        CHECKS.holds("verify without a key", x, bytes);
        CHECKS.due("verify(1) with key 1", x.verify(1), 2);
    }

    /** What stands behind the end is what is missing, and must not be read. */
    private static void verifyShort() {
        int[] key = {257, 263, 5};
        int[] whole = bytesOfWord(signature(key, Checks.row()));
        for (int length = 0; length < 4; length++) {
            PacketDesk x = deskWith(1, key, whole);
            x.clear();
            Checks.fill(x, Checks.first(length, whole));
            CHECKS.due("verify of " + length, x.verify(1), PacketDesk.SHORT);
            CHECKS.holds("verify of " + length, x, Checks.first(length, whole));
        }
        CHECKS.due("verify of four", deskWith(1, key, whole).verify(1), 0);
    }

    private static void refuses(int[] key, int[] bytes) {
        PacketDesk x = deskWith(1, key, bytes);
        CHECKS.due("verify of " + Arrays.toString(bytes), x.verify(1), PacketDesk.WRONG);
        CHECKS.holds("verify WRONG", x, bytes);
    }

    private static void verifyWrong() {
        for (int[] key : KEYS) {
            int[] good = Checks.join(Checks.row(7, 8), bytesOfWord(signature(key, Checks.row(7, 8))));
            for (int place = 0; place < 6; place++) {
                for (int bit = 0; bit < 8; bit++) {
                    int[] spoilt = good.clone();
                    spoilt[place] ^= 1 << bit;
                    refuses(key, spoilt);
                }
            }
            refuses(key, Checks.join(good, Checks.row(0)));
            refuses(key, Checks.first(5, good));
        }
        int[] byAnother = Checks.join(Checks.row(7), bytesOfWord(signature(KEYS[0], Checks.row(7))));
        refuses(KEYS[1], byAnother);
        refuses(KEYS[4], byAnother);
        refuses(KEYS[0], Checks.row(0, 0, 0, 0));
    }

    /** With n added a signature would still RAISE to the right rest: only the bound refuses it. */
    private static void verifyNotBelow() {
        int[] key = {257, 263, 5};
        long word = signature(key, Checks.row(7, 8));
        long most = (4294967295L - word) / 67591;
        long[] times = {1, 2, 3, 31000, 31773, 31774, most - 1, most};
        for (long time : times) {
            refuses(key, Checks.join(Checks.row(7, 8), bytesOfWord(word + time * 67591)));
            refuses(key, Checks.join(HASH_OF_MULTIPLE, bytesOfWord(time * 67591)));
            // Read as an int below 0, this too would be a multiple of n.
            refuses(key, Checks.join(HASH_OF_MULTIPLE, bytesOfWord(4294967296L - time * 67591)));
        }
        refuses(KEYS[2], Checks.row(255, 255, 255, 255));
        refuses(KEYS[2], Checks.row(128, 0, 0, 0));
        refuses(KEYS[2], bytesOfWord(modulus(KEYS[2])));
    }

    private static void raises() {
        for (int[] key : KEYS) {
            PacketDesk x = deskWith(2, key, 1, 2);
            long n = modulus(key);
            for (long m : wordsBelow(key)) {
                CHECKS.due("raise of " + m + " below " + n, x.raise(2, m, false), raised(key, m, false));
            }
            CHECKS.holds("raise", x, 1, 2);
        }
    }

    private static void raisesPrivate() {
        for (int[] key : KEYS) {
            PacketDesk x = deskWith(2, key, 1, 2);
            long n = modulus(key);
            for (long m : wordsBelow(key)) {
                CHECKS.due("raise of " + m + " below " + n + ", secret", x.raise(2, m, true), raised(key, m, true));
            }
            CHECKS.holds("raise", x, 1, 2);
        }
    }

    private static void fromZeroOn() {
        for (int[] key : KEYS) {
            PacketDesk x = deskWith(0, key);
            long n = modulus(key);
            CHECKS.due("raise of 0", x.raise(0, 0, false), 0);
            CHECKS.due("raise of 0, secret", x.raise(0, 0, true), 0);
            CHECKS.due("raise of n - 1", x.raise(0, n - 1, false), n - 1);
            CHECKS.due("raise of n - 1, secret", x.raise(0, n - 1, true), n - 1);
            for (long m = 2; m < 100; m++) {
                CHECKS.isTrue("raise of " + m + " is from 0 on", x.raise(0, m, false) >= 0);
                CHECKS.isTrue("raise of n - " + m + " is from 0 on", x.raise(0, n - m, true) >= 0);
            }
        }
    }

    private static void raiseNoKey() {
        PacketDesk x = new PacketDesk();
        for (int k = 0; k <= 2; k++) {
            CHECKS.due("raise(" + k + ") without keys", x.raise(k, 0, false), PacketDesk.BAD);
            CHECKS.due("raise(" + k + ") without keys, secret", x.raise(k, 1, true), PacketDesk.BAD);
        }
        x.key(1, 257, 263, 5);
        CHECKS.due("raise(0) with key 1", x.raise(0, 0, false), PacketDesk.BAD);
        CHECKS.due("raise(2) with key 1", x.raise(2, 0, true), PacketDesk.BAD);
        for (int k : NO_KEYS) {
            CHECKS.due("raise(" + k + ")", x.raise(k, 0, false), PacketDesk.BAD);
            CHECKS.due("raise(" + k + "), secret", x.raise(k, 0, true), PacketDesk.BAD);
            CHECKS.due("raise(" + k + ") of -1", x.raise(k, -1, false), PacketDesk.BAD);
        }
        CHECKS.due("raise(1) with key 1", x.raise(1, 2, false), 32);
    }

    private static void raiseNotBelow() {
        for (int[] key : KEYS) {
            PacketDesk x = deskWith(1, key);
            long n = modulus(key);
            long[] words = {-1, -2, -n, -n + 1, n, n + 1, 2 * n, 1L << 31, 1L << 32, (1L << 32) + 1, 1L << 62,
                -(1L << 32) + 1, Long.MIN_VALUE, Long.MIN_VALUE + 1, Long.MAX_VALUE};
            for (long m : words) {
                CHECKS.due("raise of " + m + " with " + n, x.raise(1, m, false), PacketDesk.BAD);
                CHECKS.due("raise of " + m + " with " + n + ", secret", x.raise(1, m, true), PacketDesk.BAD);
            }
            CHECKS.due("raise of n - 1", x.raise(1, n - 1, false), n - 1);
            CHECKS.due("raise of 0", x.raise(1, 0, false), 0);
        }
    }
}
