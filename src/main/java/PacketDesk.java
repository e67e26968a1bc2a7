/** A desk for packets and their wrappings, all on one row of bytes: the WORK. */
public final class PacketDesk {
    public static final int BAD = -1, FULL = -2, SHORT = -3, WRONG = -4;

    private static final int LIMIT = 120;

    private static final int OLD_HEADER = 128;
    private static final int NEW_HEADER = 192;
    private static final int HIGHEST_TAG = 15;
    private static final int HIGHEST_SORT = 8;
    private static final int HIGHEST_PARTIAL_SORT = 5;
    private static final int FIRST_LONG_SIZE = 24;
    private static final int LONG_SIZE = 192;
    private static final int PARTIAL_SIZE = 224;
    private static final int HIGHEST_PARTIAL_SIZE = 228;

    private static final int SHORTEST_RUN = 3;
    private static final int LONGEST_RUN = 66;
    private static final int LONGEST_LITERAL = 64;
    private static final int RUN_MARK = 128;

    private static final int HASH_START = (int) 2166136261L;
    private static final int HASH_FACTOR = 16777619;
    private static final int HASH_END_FACTOR = 739982445;
    private static final int LONGEST_STRETCH = 2000;

    private static final int WORD_BYTES = 4;
    private static final int START_BYTES = 6;
    private static final int ROUNDS = 6;

    private static final int KEYS = 3;
    private static final int LOWEST_PRIME = 257;
    private static final int HIGHEST_PRIME = 46337;
    // 216 squared is above the highest prime, so no greater divisor need be tried.
    private static final int HIGHEST_DIVISOR = 215;
    private static final int LOWEST_POWER = 3;
    private static final int HIGHEST_POWER = 65537;
    // (46337 - 1) * (46327 - 1) is below 2^31, and so are all powers and rests.
    private static final int POWER_BITS = 31;
    // Each two divisions of Euclid's halve the rest at least, so 31 bits need no more.
    private static final int EUCLID_STEPS = 64;

    private static final int PAD = 61;
    private static final int TAIL_BYTES = 5;
    private static final int CRC_START = 11994318;
    private static final int CRC_BITS = 25578747;
    private static final int CRC_OVERFLOW = 1 << 24;

    private final int[] work = new int[LIMIT];
    private int length = 0;

    // Changes are written here first, so that an answer below 0 leaves the WORK alone.
    private final int[] draft = new int[LIMIT];
    private int drafted = 0;

    // A modulus of 0 means that there is no such key.
    private final long[] moduli = new long[KEYS];
    private final long[] openPowers = new long[KEYS];
    private final long[] privatePowers = new long[KEYS];

    public PacketDesk() {
    }

    public int add(int b) {
        if (!isByte(b)) {
            return BAD;
        }
        if (length >= LIMIT) {
            return FULL;
        }
        work[length] = b;
        length++;
        return length;
    }

    public int at(int k) {
        return isPlace(k) ? work[k] : -1;
    }

    public int set(int k, int v) {
        if (!isPlace(k) || !isByte(v)) {
            return BAD;
        }
        int old = work[k];
        work[k] = v;
        return old;
    }

    public int clear() {
        int old = length;
        length = 0;
        return old;
    }

    public int wrap(int tag, int sort) {
        if (tag < 1 || tag > HIGHEST_TAG || sort < 0 || sort > HIGHEST_SORT) {
            return BAD;
        }
        drafted = 0;
        if (sort <= HIGHEST_PARTIAL_SORT) {
            draftNewPacket(tag, sort);
        } else {
            draftOldPacket(tag, sort == HIGHEST_SORT ? 3 : sort - HIGHEST_PARTIAL_SORT - 1);
        }
        return keepDraft(0);
    }

    public int unwrap() {
        if (length == 0) {
            return SHORT;
        }
        int head = work[0];
        boolean isNew = head >= NEW_HEADER;
        int s = head & 3;
        int tag = isNew ? head - NEW_HEADER : (head - OLD_HEADER) >> 2;
        if (head < OLD_HEADER || tag < 1 || tag > HIGHEST_TAG || (!isNew && s == 2)) {
            return BAD;
        }
        drafted = 0;
        int fault = isNew ? draftNewBody() : draftOldBody(s);
        if (fault < 0) {
            return fault;
        }
        keepDraft(0);
        return tag;
    }

    public int pack() {
        drafted = 0;
        int from = 0;
        for (int row = 0; row < LIMIT && from < length; row++) {
            int run = runLength(from);
            if (run >= SHORTEST_RUN) {
                put(RUN_MARK + run - SHORTEST_RUN);
                put(work[from]);
                from += run;
            } else {
                int literal = literalLength(from);
                put(literal - 1);
                putWork(from, literal);
                from += literal;
            }
        }
        return keepDraft(0);
    }

    public int unpack() {
        drafted = 0;
        int from = 0;
        for (int row = 0; row < LIMIT && from < length; row++) {
            int mark = work[from];
            boolean isRun = mark >= RUN_MARK;
            int number = isRun ? mark - RUN_MARK : mark;
            if (number >= LONGEST_LITERAL) {
                return WRONG;
            }
            int taken = isRun ? 1 : number + 1;
            if (from + 1 + taken > length) {
                return SHORT;
            }
            if (isRun) {
                putRun(work[from + 1], number + SHORTEST_RUN);
            } else {
                putWork(from + 1, taken);
            }
            // Looked at after each row, for a fault further right must not come first.
            if (drafted > LIMIT) {
                return FULL;
            }
            from += 1 + taken;
        }
        return keepDraft(0);
    }

    public int hash() {
        return hashOfFirst(length);
    }

    public int stretch(int salt, int count) {
        if (count < 0 || count > LONGEST_STRETCH) {
            return 0;
        }
        int h = HASH_START;
        int place = 0;
        for (int i = 0; i < count; i++) {
            int b = place < WORD_BYTES ? byteOfWord(salt, place) : work[place - WORD_BYTES];
            h = hashStep(h, b);
            place = place + 1 < WORD_BYTES + length ? place + 1 : 0;
        }
        return hashEnd(h);
    }

    public int encipher(int key, int start) {
        drafted = 0;
        putWord(start);
        put(draft[2]);
        put(draft[3]);
        putWork(0, length);
        feedback(key, false);
        return keepDraft(0);
    }

    public int decipher(int key) {
        if (length < START_BYTES) {
            return SHORT;
        }
        drafted = 0;
        putWork(0, length);
        feedback(key, true);
        if (draft[4] != draft[2] || draft[5] != draft[3]) {
            return WRONG;
        }
        return keepDraft(START_BYTES);
    }

    public int key(int k, int p, int q, int e) {
        if (k < 0 || k >= KEYS || p == q || e < LOWEST_POWER || e > HIGHEST_POWER) {
            return BAD;
        }
        if (!isKeyPrime(p) || !isKeyPrime(q)) {
            return BAD;
        }
        long privatePower = inverse(e, (p - 1L) * (q - 1L));
        if (privatePower == 0) {
            return BAD;
        }
        moduli[k] = (long) p * q;
        openPowers[k] = e;
        privatePowers[k] = privatePower;
        return 0;
    }

    public int sign(int k) {
        if (!isKey(k)) {
            return BAD;
        }
        long digest = hashBelowModulus(k, length);
        long signature = power(digest, privatePowers[k], moduli[k]);
        drafted = 0;
        putWork(0, length);
        putWord((int) signature);
        return keepDraft(0);
    }

    public int verify(int k) {
        if (!isKey(k)) {
            return BAD;
        }
        if (length < WORD_BYTES) {
            return SHORT;
        }
        int rest = length - WORD_BYTES;
        long signature = wordAt(rest);
        if (signature >= moduli[k]) {
            return WRONG;
        }
        long raised = power(signature, openPowers[k], moduli[k]);
        if (raised != hashBelowModulus(k, rest)) {
            return WRONG;
        }
        length = rest;
        return length;
    }

    public long raise(int k, long m, boolean secret) {
        if (!isKey(k) || m < 0 || m >= moduli[k]) {
            return BAD;
        }
        return power(m, secret ? privatePowers[k] : openPowers[k], moduli[k]);
    }

    public int letters() {
        drafted = 0;
        for (int from = 0; from < length; from += 3) {
            int left = length - from;
            int bits = work[from] << 16;
            bits |= left > 1 ? work[from + 1] << 8 : 0;
            bits |= left > 2 ? work[from + 2] : 0;
            putLetters(bits, left > 2 ? 4 : left + 1);
        }
        put(PAD);
        int crc = crcOf(work, length);
        putLetters(crc, 4);
        return keepDraft(0);
    }

    public int plain() {
        if (length < TAIL_BYTES || (length - TAIL_BYTES) % 4 != 0) {
            return SHORT;
        }
        int end = length - TAIL_BYTES;
        if (work[end] != PAD) {
            return WRONG;
        }
        drafted = 0;
        int pads = padsBefore(end);
        for (int from = 0; from < end; from += 4) {
            int bits = bitsOfLetters(from, from + 4 < end ? 4 : 4 - pads);
            if (bits < 0) {
                return WRONG;
            }
            put(bits >> 16);
            put((bits >> 8) & 255);
            put(bits & 255);
        }
        drafted -= pads;
        // A tail with a byte that is no letter gives -1, which no CRC is.
        int due = bitsOfLetters(end + 1, 4);
        int crc = crcOf(draft, drafted);
        return crc == due ? keepDraft(0) : WRONG;
    }

    private boolean isByte(int b) {
        return b >= 0 && b <= 255;
    }

    private boolean isPlace(int k) {
        return k >= 0 && k < length;
    }

    /** Counts on past the limit, so that keepDraft can tell that the draft is too long. */
    private void put(int b) {
        if (drafted < LIMIT) {
            draft[drafted] = b;
        }
        drafted++;
    }

    private void putWork(int from, int count) {
        for (int i = 0; i < count; i++) {
            put(work[from + i]);
        }
    }

    private void putRun(int b, int count) {
        for (int i = 0; i < count; i++) {
            put(b);
        }
    }

    private void putWord(int word) {
        for (int i = 0; i < WORD_BYTES; i++) {
            int b = byteOfWord(word, i);
            put(b);
        }
    }

    private int keepDraft(int from) {
        if (drafted > LIMIT) {
            return FULL;
        }
        for (int i = from; i < drafted; i++) {
            work[i - from] = draft[i];
        }
        length = drafted - from;
        return length;
    }

    private int byteOfWord(int word, int i) {
        return (word >>> (24 - 8 * i)) & 255;
    }

    private long wordAt(int from) {
        long word = 0;
        for (int i = 0; i < WORD_BYTES; i++) {
            word = word << 8 | work[from + i];
        }
        return word;
    }

    private void draftNewPacket(int tag, int sort) {
        put(NEW_HEADER + tag);
        int done = sort > 0 ? putPartialPieces(sort - 1) : 0;
        int rest = length - done;
        if (rest < FIRST_LONG_SIZE) {
            put(rest);
        } else {
            put(LONG_SIZE);
            put(rest - FIRST_LONG_SIZE);
        }
        putWork(done, rest);
    }

    private int putPartialPieces(int k) {
        int size = 1 << k;
        int done = 0;
        for (int piece = 0; piece < LIMIT && done + size <= length; piece++) {
            put(PARTIAL_SIZE + k);
            putWork(done, size);
            done += size;
        }
        return done;
    }

    private void draftOldPacket(int tag, int s) {
        put(OLD_HEADER + 4 * tag + s);
        if (s == 1) {
            put(length / 256);
        }
        if (s != 3) {
            put(length % 256);
        }
        putWork(0, length);
    }

    private int draftNewBody() {
        int from = 1;
        for (int piece = 0; piece < LIMIT && from < length; piece++) {
            int head = work[from];
            if (!isSizeByte(head)) {
                return WRONG;
            }
            int start = head == LONG_SIZE ? from + 2 : from + 1;
            if (start > length) {
                return SHORT;
            }
            int size = pieceSize(head, work[start - 1]);
            if (start + size > length) {
                return SHORT;
            }
            putWork(start, size);
            from = start + size;
            if (head < PARTIAL_SIZE) {
                return from < length ? WRONG : 0;
            }
        }
        return SHORT;
    }

    private boolean isSizeByte(int b) {
        return b < FIRST_LONG_SIZE || b == LONG_SIZE
            || (b >= PARTIAL_SIZE && b <= HIGHEST_PARTIAL_SIZE);
    }

    private int pieceSize(int head, int second) {
        if (head >= PARTIAL_SIZE) {
            return 1 << (head - PARTIAL_SIZE);
        }
        return head == LONG_SIZE ? FIRST_LONG_SIZE + second : head;
    }

    private int draftOldBody(int s) {
        int start = s == 3 ? 1 : s + 2;
        if (start > length) {
            return SHORT;
        }
        int size = length - 1;
        if (s == 0) {
            size = work[1];
        } else if (s == 1) {
            size = work[1] * 256 + work[2];
        }
        if (start + size > length) {
            return SHORT;
        }
        if (start + size < length) {
            return WRONG;
        }
        putWork(start, size);
        return 0;
    }

    private int runLength(int from) {
        int count = 1;
        for (int i = from + 1; i < length && count < LONGEST_RUN && work[i] == work[from]; i++) {
            count++;
        }
        return count;
    }

    private int literalLength(int from) {
        int count = 1;
        for (int i = from + 1; i < length && count < LONGEST_LITERAL; i++) {
            if (runLength(i) >= SHORTEST_RUN) {
                return count;
            }
            count++;
        }
        return count;
    }

    private int hashOfFirst(int count) {
        int h = HASH_START;
        for (int i = 0; i < count; i++) {
            h = hashStep(h, work[i]);
        }
        return hashEnd(h);
    }

    private int hashStep(int h, int b) {
        return (h ^ b) * HASH_FACTOR;
    }

    private int hashEnd(int h) {
        int mixed = (h ^ (h >>> 15)) * HASH_END_FACTOR;
        return mixed ^ (mixed >>> 12);
    }

    private long hashBelowModulus(int k, int count) {
        long unsigned = hashOfFirst(count) & 0xFFFFFFFFL;
        return unsigned % moduli[k];
    }

    /** Both ways go by the enciphered group before: it comes out of one and into the other. */
    private void feedback(int key, boolean undo) {
        int before = 0;
        int mask = 0;
        for (int i = 0; i < drafted && i < LIMIT; i++) {
            int place = i % WORD_BYTES;
            if (place == 0) {
                mask = cipher(before, key);
            }
            int in = draft[i];
            int out = in ^ byteOfWord(mask, place);
            draft[i] = out;
            before = before << 8 | (undo ? in : out);
        }
    }

    private int cipher(int word, int key) {
        int left = word >>> 16;
        int right = word & 65535;
        for (int i = 0; i < ROUNDS; i++) {
            int sum = (right * 40503 + roundKey(key, i)) & 65535;
            int turned = (sum << 5 | sum >> 11) & 65535;
            int next = left ^ turned ^ (right >> 3);
            left = right;
            right = next;
        }
        return right << 16 | left;
    }

    private int roundKey(int key, int i) {
        // Java takes the distance of a shift modulo 32, so a turn by 35 is one by 3.
        int turned = (key << (7 * i)) | (key >>> (32 - 7 * i));
        return (turned & 65535) ^ (i * 9029);
    }

    private boolean isKey(int k) {
        return k >= 0 && k < KEYS && moduli[k] > 0;
    }

    private boolean isKeyPrime(int p) {
        if (p < LOWEST_PRIME || p > HIGHEST_PRIME) {
            return false;
        }
        for (int divisor = 2; divisor <= HIGHEST_DIVISOR; divisor++) {
            if (p % divisor == 0) {
                return false;
            }
        }
        return true;
    }

    /** The number whose product with e has the rest 1 by m; 0 if there is none. */
    private long inverse(long e, long m) {
        long rest = m;
        long nextRest = e;
        long factor = 0;
        long nextFactor = 1;
        for (int step = 0; step < EUCLID_STEPS && nextRest != 0; step++) {
            long quotient = rest / nextRest;
            long newRest = rest - quotient * nextRest;
            long newFactor = factor - quotient * nextFactor;
            rest = nextRest;
            nextRest = newRest;
            factor = nextFactor;
            nextFactor = newFactor;
        }
        if (rest != 1) {
            return 0;
        }
        return factor < 0 ? factor + m : factor;
    }

    private long power(long base, long exponent, long modulus) {
        long result = 1;
        long square = base;
        for (int bit = 0; bit < POWER_BITS; bit++) {
            if (((exponent >> bit) & 1) == 1) {
                result = result * square % modulus;
            }
            square = square * square % modulus;
        }
        return result;
    }

    private void putLetters(int bits, int count) {
        for (int i = 0; i < 4; i++) {
            int letter = letterOf((bits >> (18 - 6 * i)) & 63);
            put(i < count ? letter : PAD);
        }
    }

    private int letterOf(int number) {
        if (number < 26) {
            return 'A' + number;
        }
        if (number < 52) {
            return 'a' + number - 26;
        }
        if (number < 62) {
            return '0' + number - 52;
        }
        return number == 62 ? '+' : '/';
    }

    private int numberOf(int letter) {
        if (letter >= 'A' && letter <= 'Z') {
            return letter - 'A';
        }
        if (letter >= 'a' && letter <= 'z') {
            return letter - 'a' + 26;
        }
        if (letter >= '0' && letter <= '9') {
            return letter - '0' + 52;
        }
        if (letter == '+') {
            return 62;
        }
        return letter == '/' ? 63 : -1;
    }

    private int padsBefore(int end) {
        if (end < 4 || work[end - 1] != PAD) {
            return 0;
        }
        return work[end - 2] == PAD ? 2 : 1;
    }

    /** The 24 bits of four letters, those behind the first count being zeros; -1 if one is none. */
    private int bitsOfLetters(int from, int count) {
        int bits = 0;
        for (int i = 0; i < 4; i++) {
            int number = i < count ? numberOf(work[from + i]) : 0;
            if (number < 0) {
                return -1;
            }
            bits = bits << 6 | number;
        }
        return bits;
    }

    private int crcOf(int[] row, int count) {
        int crc = CRC_START;
        for (int i = 0; i < count; i++) {
            crc ^= row[i] << 16;
            for (int bit = 0; bit < 8; bit++) {
                crc <<= 1;
                if ((crc & CRC_OVERFLOW) != 0) {
                    crc ^= CRC_BITS;
                }
            }
        }
        return crc;
    }
}
