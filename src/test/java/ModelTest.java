import java.util.Random;

/** Runs of calls on a desk and on the model side by side; the seeds are fixed. */
public final class ModelTest {
    private static final int RUNS = 6000;
    private static final int STEPS = 80;
    // An object has 512 calls; the last step may take some, and the look at all bytes takes 122.
    private static final int CALLS_OF_STEPS = 380;
    private static final int[] PRIMES = {257, 263, 269, 1009, 10007, 10009, 46327, 46337, 256, 46349, 2047};
    private static final int[] POWERS = {3, 5, 7, 17, 257, 65537, 65535, 2, 4, 65538, 131};

    private final Checks checks;
    private final Random random;
    private final PacketDesk desk = new PacketDesk();
    private final Model model = new Model();
    private final StringBuilder told = new StringBuilder();
    private int calls = 0;
    private boolean agreed = true;
    private int key = 0;

    private ModelTest(Checks checks, long seed) {
        this.checks = checks;
        this.random = new Random(seed);
    }

    public static void main(String[] args) {
        Checks checks = new Checks();
        int[] answers = new int[5];
        for (int run = 0; run < RUNS; run++) {
            new ModelTest(checks, run).run(answers);
        }
        // A generator that never met a fault would show nothing.
        for (int code = 1; code <= 4; code++) {
            checks.isTrue("runs that met " + -code + ": " + answers[code], answers[code] > RUNS / 20);
        }
        checks.finish();
    }

    private void run(int[] answers) {
        for (int step = 0; step < STEPS && calls < CALLS_OF_STEPS && agreed; step++) {
            int kind = random.nextInt(20);
            if (kind < 6) {
                change(kind);
            } else {
                work(kind - 6, answers);
            }
            same("hash()", desk.hash(), model.hash());
        }
        for (int k = -1; k <= 120 && agreed; k++) {
            same("at(" + k + ")", desk.at(k), model.at(k));
        }
        checks.isTrue("a run of " + calls + " calls", agreed);
    }

    private void same(String call, long got, long want) {
        calls++;
        told.append(call).append(" = ").append(want).append('\n');
        if (got != want && agreed) {
            agreed = false;
            checks.due(told + "the last of these", got, want);
        }
    }

    private void change(int kind) {
        if (kind == 0) {
            same("clear()", desk.clear(), model.clear());
        } else if (kind <= 2) {
            addMany(random.nextInt(3) == 0 ? random.nextInt(60) : random.nextInt(8));
        } else if (kind == 3) {
            int k = random.nextInt(124) - 2;
            int v = random.nextInt(260) - 2;
            same("set(" + k + ", " + v + ")", desk.set(k, v), model.set(k, v));
        } else if (kind == 4) {
            int k = random.nextInt(8);
            int v = someByte();
            same("set(" + k + ", " + v + ")", desk.set(k, v), model.set(k, v));
        } else {
            int b = random.nextInt(260) - 2;
            same("add(" + b + ")", desk.add(b), model.add(b));
        }
    }

    private void addMany(int count) {
        int spread = 1 + random.nextInt(random.nextBoolean() ? 3 : 256);
        for (int i = 0; i < count && calls < CALLS_OF_STEPS; i++) {
            int b = random.nextInt(spread);
            same("add(" + b + ")", desk.add(b), model.add(b));
        }
    }

    /** The bytes that mean something as a header, a size or a mark come often. */
    private int someByte() {
        int[] edges = {0, 1, 23, 24, 61, 63, 64, 127, 128, 129, 132, 133, 134, 135, 191, 192, 193, 207, 208,
            223, 224, 225, 228, 229, 255};
        return random.nextBoolean() ? edges[random.nextInt(edges.length)] : random.nextInt(256);
    }

    private void work(int kind, int[] answers) {
        long answer = 0;
        if (kind == 0) {
            int tag = random.nextInt(18) - 1;
            int sort = random.nextInt(11) - 1;
            answer = model.wrap(tag, sort);
            same("wrap(" + tag + ", " + sort + ")", desk.wrap(tag, sort), answer);
        } else if (kind == 1) {
            answer = model.unwrap();
            same("unwrap()", desk.unwrap(), answer);
        } else if (kind == 2) {
            answer = model.pack();
            same("pack()", desk.pack(), answer);
        } else if (kind == 3) {
            answer = model.unpack();
            same("unpack()", desk.unpack(), answer);
        } else if (kind == 4) {
            int salt = random.nextInt();
            int count = random.nextBoolean() ? random.nextInt(20) - 2 : random.nextInt(2010);
            same("stretch(" + salt + ", " + count + ")", desk.stretch(salt, count), model.stretch(salt, count));
        } else if (kind == 5) {
            key = random.nextInt();
            int start = random.nextInt();
            answer = model.encipher(key, start);
            same("encipher(" + key + ", " + start + ")", desk.encipher(key, start), answer);
        } else if (kind <= 7) {
            int other = random.nextInt(8) == 0 ? key ^ 1 : key;
            answer = model.decipher(other);
            same("decipher(" + other + ")", desk.decipher(other), answer);
        } else {
            answer = keysAndLetters(kind);
        }
        if (answer < 0) {
            answers[(int) -answer]++;
        }
    }

    private long keysAndLetters(int kind) {
        int k = random.nextInt(12) == 0 ? random.nextInt(7) - 2 : random.nextInt(2);
        long answer;
        if (kind == 8) {
            int p = PRIMES[random.nextInt(PRIMES.length)];
            int q = PRIMES[random.nextInt(PRIMES.length)];
            int e = POWERS[random.nextInt(POWERS.length)];
            answer = model.key(k, p, q, e);
            same("key(" + k + ", " + p + ", " + q + ", " + e + ")", desk.key(k, p, q, e), answer);
        } else if (kind == 9) {
            answer = model.sign(k);
            same("sign(" + k + ")", desk.sign(k), answer);
        } else if (kind == 10) {
            answer = model.verify(k);
            same("verify(" + k + ")", desk.verify(k), answer);
        } else if (kind == 11) {
            long m = random.nextBoolean() ? random.nextInt(80000) : random.nextLong() >> 32;
            boolean secret = random.nextBoolean();
            answer = model.raise(k, m, secret);
            same("raise(" + k + ", " + m + ", " + secret + ")", desk.raise(k, m, secret), answer);
        } else if (kind == 12) {
            answer = model.letters();
            same("letters()", desk.letters(), answer);
        } else {
            answer = model.plain();
            same("plain()", desk.plain(), answer);
        }
        return answer;
    }
}
