import java.math.BigInteger;
import java.nio.ByteBuffer;
import java.util.ArrayList;
import java.util.Base64;
import java.util.List;
import java.util.function.Supplier;

/** The document told a second time, with the Java library and with no thought of speed. */
final class Model {
    private static final int BAD = -1, FULL = -2, SHORT = -3, WRONG = -4;
    private static final String ALPHABET =
        "ABCDEFGHIJKLMNOPQRSTUVWXYZabcdefghijklmnopqrstuvwxyz0123456789+/";

    private static final class Fault extends RuntimeException {
        private static final long serialVersionUID = 1;
        final int code;

        Fault(int code) {
            this.code = code;
        }
    }

    private List<Integer> work = new ArrayList<>();
    private final BigInteger[][] keys = new BigInteger[3][];

    int add(int b) {
        return answer(() -> {
            need((b & ~255) == 0, BAD);
            List<Integer> more = new ArrayList<>(work);
            more.add(b);
            return become(more);
        });
    }

    int at(int k) {
        return k >= 0 && k < work.size() ? work.get(k) : -1;
    }

    int set(int k, int v) {
        return at(k) < 0 || (v & ~255) != 0 ? BAD : work.set(k, v);
    }

    int clear() {
        int old = work.size();
        work.clear();
        return old;
    }

    int wrap(int tag, int sort) {
        return answer(() -> {
            need(tag >= 1 && tag <= 15 && sort >= 0 && sort <= 8, BAD);
            List<Integer> out = new ArrayList<>();
            int n = work.size();
            switch (sort) {
                case 6 -> out.addAll(List.of(128 + 4 * tag, n));
                case 7 -> out.addAll(List.of(129 + 4 * tag, n / 256, n % 256));
                case 8 -> out.add(131 + 4 * tag);
                default -> out.add(192 + tag);
            }
            List<Integer> left = work;
            if (sort >= 1 && sort <= 5) {
                int size = 1 << (sort - 1);
                while (left.size() >= size) {
                    out.add(223 + sort);
                    out.addAll(left.subList(0, size));
                    left = left.subList(size, left.size());
                }
            }
            if (sort <= 5) {
                out.addAll(left.size() < 24 ? List.of(left.size()) : List.of(192, left.size() - 24));
            }
            out.addAll(left);
            return become(out);
        });
    }

    int unwrap() {
        return answer(() -> {
            List<Integer> in = new ArrayList<>(work);
            List<Integer> body = new ArrayList<>();
            int head = take(in);
            need(head >= 128, BAD);
            int tag = head >= 192 ? head - 192 : head / 4 % 16;
            need(tag >= 1 && tag <= 15, BAD);
            if (head >= 192) {
                boolean more = true;
                while (more) {
                    int size = take(in);
                    more = size >= 224;
                    need(size < 24 || size == 192 || (more && size < 229), WRONG);
                    int bytes = more ? 1 << (size - 224) : size == 192 ? take(in) + 24 : size;
                    body.addAll(take(in, bytes));
                }
            } else {
                need(head % 4 != 2, BAD);
                int bytes = head % 4 == 3 ? in.size()
                    : head % 4 == 0 ? take(in) : take(in) * 256 + take(in);
                body.addAll(take(in, bytes));
            }
            need(in.isEmpty(), WRONG);
            become(body);
            return tag;
        });
    }

    int pack() {
        return answer(() -> {
            List<Integer> in = new ArrayList<>(work);
            List<Integer> out = new ArrayList<>();
            while (!in.isEmpty()) {
                int run = Math.min(66, same(in, 0));
                if (run >= 3) {
                    out.add(125 + run);
                    out.add(take(in, run).get(0));
                } else {
                    int end = 0;
                    while (end < in.size() && same(in, end) < 3) {
                        end++;
                    }
                    end = Math.min(end, 64);
                    out.add(end - 1);
                    out.addAll(take(in, end));
                }
            }
            return become(out);
        });
    }

    private static int same(List<Integer> row, int from) {
        return (int) row.stream().skip(from).takeWhile(b -> b.equals(row.get(from))).count();
    }

    int unpack() {
        return answer(() -> {
            List<Integer> in = new ArrayList<>(work);
            List<Integer> out = new ArrayList<>();
            while (!in.isEmpty()) {
                int n = take(in);
                need(n < 64 || (n >= 128 && n <= 191), WRONG);
                if (n < 64) {
                    out.addAll(take(in, n + 1));
                } else {
                    int b = take(in);
                    for (int i = 0; i < n - 125; i++) {
                        out.add(b);
                    }
                }
                need(out.size() <= 120, FULL);
            }
            return become(out);
        });
    }

    int hash() {
        return hash(work);
    }

    private static int hash(List<Integer> bytes) {
        BigInteger word = BigInteger.ONE.shiftLeft(32);
        BigInteger h = BigInteger.valueOf(2166136261L);
        for (int b : bytes) {
            h = h.xor(BigInteger.valueOf(b)).multiply(BigInteger.valueOf(16777619)).mod(word);
        }
        h = h.xor(h.shiftRight(15)).multiply(BigInteger.valueOf(739982445)).mod(word);
        return h.xor(h.shiftRight(12)).intValue();
    }

    int stretch(int salt, int count) {
        if (count < 0 || count > 2000) {
            return 0;
        }
        List<Integer> endless = new ArrayList<>();
        while (endless.size() < count) {
            endless.addAll(bytes(salt));
            endless.addAll(work);
        }
        return hash(endless.subList(0, count));
    }

    int encipher(int key, int start) {
        return answer(() -> {
            List<Integer> in = new ArrayList<>(bytes(start));
            in.addAll(in.subList(2, 4).stream().toList());
            in.addAll(work);
            List<Integer> out = new ArrayList<>();
            List<Integer> before = bytes(0);
            while (!in.isEmpty()) {
                before = xor(take(in, Math.min(4, in.size())), bytes(cipher(word(before), key)));
                out.addAll(before);
            }
            return become(out);
        });
    }

    int decipher(int key) {
        return answer(() -> {
            need(work.size() >= 6, SHORT);
            List<Integer> in = new ArrayList<>(work);
            List<Integer> out = new ArrayList<>();
            List<Integer> before = bytes(0);
            while (!in.isEmpty()) {
                List<Integer> group = take(in, Math.min(4, in.size()));
                out.addAll(xor(group, bytes(cipher(word(before), key))));
                before = group;
            }
            need(out.subList(2, 4).equals(out.subList(4, 6)), WRONG);
            return become(out.subList(6, out.size()));
        });
    }

    private static List<Integer> xor(List<Integer> group, List<Integer> mask) {
        List<Integer> out = new ArrayList<>();
        for (int i = 0; i < group.size(); i++) {
            out.add(group.get(i) ^ mask.get(i));
        }
        return out;
    }

    private static int cipher(int x, int key) {
        long l = Integer.toUnsignedLong(x) / 65536;
        long r = Integer.toUnsignedLong(x) % 65536;
        for (int i = 0; i < 6; i++) {
            long k = (Integer.rotateLeft(key, 7 * i) & 0xFFFF) ^ (i * 9029L);
            long sum = (r * 40503 + k) % 65536;
            long t = (sum * 32 % 65536 + sum / 2048) ^ (r / 8);
            long newR = l ^ t;
            l = r;
            r = newR;
        }
        return (int) (r * 65536 + l);
    }

    int key(int k, int p, int q, int e) {
        return answer(() -> {
            need(k >= 0 && k <= 2 && isPrime(p) && isPrime(q) && p != q && e >= 3 && e <= 65537, BAD);
            BigInteger phi = BigInteger.valueOf(p - 1).multiply(BigInteger.valueOf(q - 1));
            BigInteger open = BigInteger.valueOf(e);
            need(open.gcd(phi).equals(BigInteger.ONE), BAD);
            BigInteger n = BigInteger.valueOf(p).multiply(BigInteger.valueOf(q));
            keys[k] = new BigInteger[] {n, open, open.modInverse(phi)};
            return 0;
        });
    }

    private static boolean isPrime(int p) {
        return p >= 257 && p <= 46337 && BigInteger.valueOf(p).isProbablePrime(50);
    }

    private BigInteger[] keyOf(int k) {
        need(k >= 0 && k <= 2 && keys[k] != null, BAD);
        return keys[k];
    }

    private static BigInteger digest(List<Integer> bytes, BigInteger n) {
        return BigInteger.valueOf(Integer.toUnsignedLong(hash(bytes))).mod(n);
    }

    int sign(int k) {
        return answer(() -> {
            BigInteger[] key = keyOf(k);
            List<Integer> out = new ArrayList<>(work);
            out.addAll(bytes(digest(work, key[0]).modPow(key[2], key[0]).intValue()));
            return become(out);
        });
    }

    int verify(int k) {
        return answer(() -> {
            BigInteger[] key = keyOf(k);
            int rest = work.size() - 4;
            need(rest >= 0, SHORT);
            List<Integer> body = work.subList(0, rest);
            long signature = Integer.toUnsignedLong(word(work.subList(rest, rest + 4)));
            BigInteger m = BigInteger.valueOf(signature);
            need(m.compareTo(key[0]) < 0, WRONG);
            need(m.modPow(key[1], key[0]).equals(digest(body, key[0])), WRONG);
            return become(body);
        });
    }

    long raise(int k, long m, boolean secret) {
        long[] result = {0};
        int fault = answer(() -> {
            BigInteger[] key = keyOf(k);
            BigInteger base = BigInteger.valueOf(m);
            need(m >= 0 && base.compareTo(key[0]) < 0, BAD);
            result[0] = base.modPow(key[secret ? 2 : 1], key[0]).longValue();
            return 0;
        });
        return fault < 0 ? fault : result[0];
    }

    int letters() {
        return answer(() -> {
            String text = base64(work) + "=" + base64(crc(work));
            return become(text.chars().boxed().toList());
        });
    }

    int plain() {
        return answer(() -> {
            int end = work.size() - 5;
            need(end >= 0 && end % 4 == 0, SHORT);
            StringBuilder text = new StringBuilder();
            work.forEach(b -> text.append((char) b.intValue()));
            String part = text.substring(0, end);
            String tail = text.substring(end);
            need(tail.matches("=[A-Za-z0-9+/]{4}"), WRONG);
            need(part.matches("([A-Za-z0-9+/]{4})*([A-Za-z0-9+/]{3}=|[A-Za-z0-9+/]{2}==)?"), WRONG);
            StringBuilder bits = new StringBuilder();
            for (char c : part.replace("=", "").toCharArray()) {
                bits.append(Integer.toBinaryString(64 + ALPHABET.indexOf(c)).substring(1));
            }
            List<Integer> out = new ArrayList<>();
            for (int i = 0; i + 8 <= bits.length(); i += 8) {
                out.add(Integer.parseInt(bits.substring(i, i + 8), 2));
            }
            need(tail.equals("=" + base64(crc(out))), WRONG);
            return become(out);
        });
    }

    private static String base64(List<Integer> bytes) {
        ByteBuffer buffer = ByteBuffer.allocate(bytes.size());
        bytes.forEach(b -> buffer.put(b.byteValue()));
        return Base64.getEncoder().encodeToString(buffer.array());
    }

    private static List<Integer> crc(List<Integer> bytes) {
        long crc = 11994318;
        for (int b : bytes) {
            crc ^= b * 65536L;
            for (int i = 0; i < 8; i++) {
                crc *= 2;
                crc = crc >= 16777216 ? crc ^ 25578747 : crc;
            }
        }
        return List.of((int) (crc / 65536), (int) (crc / 256 % 256), (int) (crc % 256));
    }

    private static int answer(Supplier<Integer> call) {
        try {
            return call.get();
        } catch (Fault fault) {
            return fault.code;
        }
    }

    private static void need(boolean holds, int code) {
        if (!holds) {
            throw new Fault(code);
        }
    }

    private int become(List<Integer> bytes) {
        need(bytes.size() <= 120, FULL);
        work = new ArrayList<>(bytes);
        return work.size();
    }

    private static int take(List<Integer> in) {
        return take(in, 1).get(0);
    }

    private static List<Integer> take(List<Integer> in, int count) {
        need(in.size() >= count, SHORT);
        List<Integer> taken = new ArrayList<>(in.subList(0, count));
        in.subList(0, count).clear();
        return taken;
    }

    private static List<Integer> bytes(int word) {
        return List.of(word >>> 24, word >>> 16 & 255, word >>> 8 & 255, word & 255);
    }

    private static int word(List<Integer> bytes) {
        int word = 0;
        for (int b : bytes) {
            word = word * 256 + b;
        }
        return word;
    }
}
