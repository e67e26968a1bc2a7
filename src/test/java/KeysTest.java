import java.math.BigInteger;

/** Promises 14 to 17: key, sign, verify, raise. */
public final class KeysTest {
    private static final Checks CHECKS = new Checks();

    public static void main(String[] args) {
        primes();
        keyFaults();
        keyKeepsTheOld();
        raises();
        raiseFaults();
        signs();
        signFaults();
        verifyFaults();
        CHECKS.finish();
    }

    private static void primes() {
        for (int from = -3; from < 47000; from += 500) {
            PacketDesk x = new PacketDesk();
            for (int p = from; p < from + 500; p++) {
                if (p >= 2000 && p < 45000 && p % 7 != 0) {
                    continue;
                }
                boolean prime = p >= 257 && p <= 46337 && BigInteger.valueOf(p).isProbablePrime(40);
                int want = prime && p != 257 && coprime(5, p, 257) ? 0 : PacketDesk.BAD;
                CHECKS.due("key(0, " + p + ", 257, 5)", x.key(0, p, 257, 5), want);
            }
        }
        PacketDesk y = new PacketDesk();
        int[] noPrimes = {-257, 0, 1, 251, 256, 259, 561, 1105, 1369, 2047, 44521, 46225, 46336, 46349,
            Integer.MIN_VALUE, Integer.MAX_VALUE};
        for (int p : noPrimes) {
            CHECKS.due("key with p " + p, y.key(1, p, 263, 5), PacketDesk.BAD);
            CHECKS.due("key with q " + p, y.key(1, 263, p, 5), PacketDesk.BAD);
        }
        CHECKS.due("no key came of it", y.raise(1, 0, false), PacketDesk.BAD);
    }

    private static boolean coprime(int e, int p, int q) {
        BigInteger phi = BigInteger.valueOf((p - 1L) * (q - 1L));
        return BigInteger.valueOf(e).gcd(phi).equals(BigInteger.ONE);
    }

    private static void keyFaults() {
        PacketDesk x = new PacketDesk();
        int[] noKeys = {-1, 3, Integer.MIN_VALUE, Integer.MAX_VALUE};
        for (int k : noKeys) {
            CHECKS.due("key " + k, x.key(k, 257, 263, 5), PacketDesk.BAD);
        }
        int[] noPowers = {2, 1, 0, -5, 65538, 65539, Integer.MIN_VALUE, Integer.MAX_VALUE};
        for (int e : noPowers) {
            CHECKS.due("e " + e, x.key(0, 257, 263, e), PacketDesk.BAD);
        }
        CHECKS.due("the same primes", x.key(0, 263, 263, 5), PacketDesk.BAD);
        CHECKS.due("an even e", x.key(0, 257, 263, 4), PacketDesk.BAD);
        CHECKS.due("131 divides 262", x.key(0, 257, 263, 131), PacketDesk.BAD);
        CHECKS.due("131 divides 262, p and q changed", x.key(0, 263, 257, 131), PacketDesk.BAD);
        CHECKS.due("3 * 131", x.key(0, 257, 263, 393), PacketDesk.BAD);
        CHECKS.due("no key came of it", x.raise(0, 0, false), PacketDesk.BAD);
        CHECKS.due("e 3", x.key(0, 257, 263, 3), 0);
        CHECKS.due("e 65537", x.key(1, 257, 263, 65537), 0);
        CHECKS.due("e that is no prime", x.key(2, 257, 263, 9), 0);
        CHECKS.due("the highest primes", x.key(2, 46337, 46327, 5), 0);
        for (int e = 3; e < 300; e++) {
            int want = coprime(e, 10007, 10009) ? 0 : PacketDesk.BAD;
            CHECKS.due("10007, 10009, e " + e, new PacketDesk().key(0, 10007, 10009, e), want);
        }
    }

    private static void keyKeepsTheOld() {
        PacketDesk x = new PacketDesk();
        x.key(0, 257, 263, 5);
        x.key(1, 10007, 10009, 7);
        x.key(0, 257, 257, 3);
        CHECKS.due("a BAD key changes nothing", x.raise(0, 2, false), 32);
        x.key(0, 257, 263, 3);
        CHECKS.due("a new key for the old one", x.raise(0, 2, false), 8);
        CHECKS.due("the other key stays", x.raise(1, 2, false), 128);
        CHECKS.due("the third is none", x.raise(2, 2, false), PacketDesk.BAD);
    }

    private static void raises() {
        int[][] keys = {{257, 263, 3}, {257, 269, 65537}, {46337, 46327, 65537}, {10007, 10009, 7},
            {46337, 257, 3}, {263, 46309, 65535}};
        for (int[] key : keys) {
            PacketDesk x = new PacketDesk();
            long n = (long) key[0] * key[1];
            BigInteger phi = BigInteger.valueOf((key[0] - 1L) * (key[1] - 1L));
            BigInteger e = BigInteger.valueOf(key[2]);
            int want = e.gcd(phi).equals(BigInteger.ONE) ? 0 : PacketDesk.BAD;
            CHECKS.due("key", x.key(2, key[0], key[1], key[2]), want);
            if (want < 0) {
                continue;
            }
            BigInteger d = e.modInverse(phi);
            BigInteger modulus = BigInteger.valueOf(n);
            long[] words = {0, 1, 2, key[0], key[1], key[0] * 2L, n / 2, n / 3, n - 2, n - 1};
            for (long m : words) {
                BigInteger base = BigInteger.valueOf(m);
                String what = "raise of " + m + " below " + n;
                CHECKS.due(what, x.raise(2, m, false), base.modPow(e, modulus).longValue());
                CHECKS.due(what + ", secret", x.raise(2, m, true), base.modPow(d, modulus).longValue());
            }
            CHECKS.due("raise of n", x.raise(2, n, false), PacketDesk.BAD);
            CHECKS.due("raise of n, secret", x.raise(2, n, true), PacketDesk.BAD);
        }
    }

    private static void raiseFaults() {
        PacketDesk x = new PacketDesk();
        x.key(1, 257, 263, 5);
        long[] words = {-1, 257 * 263, Long.MIN_VALUE, Long.MAX_VALUE, 1L << 32, (1L << 32) + 1};
        for (long m : words) {
            CHECKS.due("raise of " + m, x.raise(1, m, false), PacketDesk.BAD);
            CHECKS.due("raise of " + m + ", secret", x.raise(1, m, true), PacketDesk.BAD);
        }
        int[] noKeys = {-1, 0, 2, 3, Integer.MIN_VALUE, Integer.MAX_VALUE};
        for (int k : noKeys) {
            CHECKS.due("raise with " + k, x.raise(k, 1, false), PacketDesk.BAD);
        }
    }

    private static void signs() {
        PacketDesk x = Checks.desk(1, 2, 3);
        x.key(1, 46337, 46327, 65537);
        x.key(0, 257, 269, 65537);
        CHECKS.due("sign(1)", x.sign(1), 7);
        CHECKS.holds("sign(1)", x, 1, 2, 3, 124, 238, 46, 172);
        CHECKS.due("verify(1)", x.verify(1), 3);
        CHECKS.holds("verify(1)", x, 1, 2, 3);
        CHECKS.due("sign(0)", x.sign(0), 7);
        CHECKS.holds("sign(0)", x, 1, 2, 3, 0, 0, 49, 254);
        CHECKS.due("verify(0)", x.verify(0), 3);
        for (int length = 0; length <= 116; length++) {
            int[] bytes = Checks.climbing(length);
            PacketDesk y = Checks.desk(bytes);
            y.key(2, 10007, 46337, 3);
            long digest = (y.hash() & 0xFFFFFFFFL) % (10007L * 46337L);
            long due = y.raise(2, digest, true);
            CHECKS.due("sign of " + length, y.sign(2), length + 4);
            long got = 0;
            for (int i = 0; i < 4; i++) {
                got = got * 256 + y.at(length + i);
            }
            CHECKS.due("signature of " + length, got, due);
            CHECKS.due("verify of " + length, y.verify(2), length);
            CHECKS.holds("verify of " + length, y, bytes);
        }
    }

    private static void signFaults() {
        int[] b117 = Checks.climbing(117);
        PacketDesk x = Checks.desk(b117);
        x.key(0, 257, 263, 5);
        CHECKS.due("sign of 117", x.sign(0), PacketDesk.FULL);
        CHECKS.due("sign with no key", x.sign(1), PacketDesk.BAD);
        CHECKS.due("sign(-1)", x.sign(-1), PacketDesk.BAD);
        CHECKS.due("sign(3)", x.sign(3), PacketDesk.BAD);
        CHECKS.holds("sign", x, b117);
    }

    private static void verifyFaults() {
        PacketDesk x = Checks.desk(7, 8);
        x.key(0, 257, 263, 5);
        x.key(1, 10007, 10009, 7);
        x.sign(1);
        int[] signed = Checks.bytesOf(x);
        CHECKS.due("verify with another key", x.verify(0), PacketDesk.WRONG);
        CHECKS.due("verify with no key", x.verify(2), PacketDesk.BAD);
        CHECKS.due("verify(3)", x.verify(3), PacketDesk.BAD);
        CHECKS.due("verify(-1)", x.verify(-1), PacketDesk.BAD);
        for (int place = 0; place < 6; place++) {
            int old = x.at(place);
            x.set(place, old ^ 1);
            CHECKS.due("verify, byte " + place + " spoilt", x.verify(1), PacketDesk.WRONG);
            x.set(place, old);
        }
        CHECKS.holds("verify WRONG", x, signed);
        CHECKS.due("verify", x.verify(1), 2);
        for (int length = 0; length < 4; length++) {
            x.clear();
            Checks.fill(x, Checks.climbing(length));
            CHECKS.due("verify of " + length, x.verify(1), PacketDesk.SHORT);
            CHECKS.holds("verify of " + length, x, Checks.climbing(length));
        }
        notBelowModulus();
    }

    /** A signature with n added would RAISE to the right rest: only the bound refuses it. */
    private static void notBelowModulus() {
        PacketDesk x = Checks.desk(7, 8);
        x.key(0, 257, 263, 5);
        x.sign(0);
        long word = 0;
        for (int i = 0; i < 4; i++) {
            word = word * 256 + x.at(2 + i);
        }
        for (long times = 1; times < 4; times++) {
            long above = word + times * 257 * 263;
            for (int i = 0; i < 4; i++) {
                x.set(2 + i, (int) (above >> (24 - 8 * i)) & 255);
            }
            CHECKS.due("verify of a signature above n", x.verify(0), PacketDesk.WRONG);
        }
        // The HASH of these three is a multiple of n, so 0 is their signature, and n must not be.
        PacketDesk z = Checks.desk(1, 33, 185, 0, 1, 8, 7);
        z.key(0, 257, 263, 5);
        CHECKS.due("verify of n itself", z.verify(0), PacketDesk.WRONG);
        z.set(4, 0);
        z.set(5, 0);
        z.set(6, 0);
        CHECKS.due("verify of 0", z.verify(0), 3);
        PacketDesk y = Checks.desk(255, 255, 255, 255);
        y.key(0, 46337, 46327, 65537);
        CHECKS.due("verify of the highest word", y.verify(0), PacketDesk.WRONG);
    }
}
