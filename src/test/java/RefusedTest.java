import java.util.ArrayList;
import java.util.Arrays;
import java.util.List;
import java.util.function.ToLongFunction;

/**
 * After an answer below 0 nothing has changed, for each call that can give one. A desk that had the
 * refused call is laid beside a twin that had not, and both must answer alike whatever comes next.
 */
public final class RefusedTest {
    private static final Checks CHECKS = new Checks();
    private static final List<ToLongFunction<PacketDesk>> NEXT = new ArrayList<>();

    public static void main(String[] args) {
        tell(CHECKS);
        CHECKS.finish();
    }

    static void tell(Telling doc) {
        doc.part("Terms");
        doc.says("and then (as with all answers below 0) nothing changes.", RefusedTest::nothingChanges);
    }

    private static void nothingChanges() {
        nextCalls();
        add();
        at();
        set();
        wrap();
        unwrapBad();
        unwrapShort();
        unwrapWrong();
        pack();
        unpackWrong();
        unpackShort();
        unpackFull();
        encipher();
        decipher();
        key();
        sign();
        verify();
        raise();
        letters();
        plain();
        answersBelowZero();
    }

    private static void nextCalls() {
        NEXT.add(x -> x.add(9));
        NEXT.add(x -> x.set(0, 9));
        NEXT.add(x -> x.clear());
        for (int sort = 0; sort <= 8; sort++) {
            int s = sort;
            NEXT.add(x -> x.wrap(3, s));
        }
        NEXT.add(x -> x.unwrap());
        NEXT.add(x -> x.pack());
        NEXT.add(x -> x.unpack());
        NEXT.add(x -> x.hash());
        NEXT.add(x -> x.stretch(5, 300));
        NEXT.add(x -> x.encipher(5, 6));
        NEXT.add(x -> x.decipher(5));
        for (int key = 0; key <= 2; key++) {
            int k = key;
            NEXT.add(x -> x.sign(k));
            NEXT.add(x -> x.verify(k));
            NEXT.add(x -> x.raise(k, 12345, false));
            NEXT.add(x -> x.raise(k, 12345, true));
            NEXT.add(x -> x.key(k, 263, 269, 3));
        }
        NEXT.add(x -> x.letters());
        NEXT.add(x -> x.plain());
    }

    private static PacketDesk before(int... bytes) {
        PacketDesk x = Checks.usedDesk(85, bytes);
        x.key(0, 257, 263, 5);
        x.key(1, 46337, 46327, 65537);
        return x;
    }

    private static void refused(String what, long fault, int[] bytes, ToLongFunction<PacketDesk> call) {
        String told = what + " on " + Arrays.toString(bytes);
        PacketDesk once = before(bytes);
        CHECKS.due(told, call.applyAsLong(once), fault);
        CHECKS.holds(told, once, bytes);
        CHECKS.due(told + ", again", call.applyAsLong(once), fault);
        CHECKS.holds(told + ", again", once, bytes);
        keysAreAsBefore(told, once);
        for (int i = 0; i < NEXT.size(); i++) {
            PacketDesk x = before(bytes);
            PacketDesk twin = before(bytes);
            call.applyAsLong(x);
            String then = told + ", then call " + i + " of the next calls";
            CHECKS.due(then, NEXT.get(i).applyAsLong(x), NEXT.get(i).applyAsLong(twin));
            CHECKS.holds(then, x, Checks.bytesOf(twin));
        }
    }

    private static void keysAreAsBefore(String told, PacketDesk x) {
        CHECKS.due(told + ", e of key 0", x.raise(0, 2, false), 32);
        CHECKS.due(told + ", d of key 0", x.raise(0, 32, true), 2);
        CHECKS.due(told + ", n of key 0", x.raise(0, 67590, false), 67590);
        CHECKS.due(told + ", n of key 0", x.raise(0, 67591, false), PacketDesk.BAD);
        long n = 46337L * 46327;
        CHECKS.due(told + ", e and d of key 1", x.raise(1, x.raise(1, 2, false), true), 2);
        CHECKS.due(told + ", n of key 1", x.raise(1, n - 1, false), n - 1);
        CHECKS.due(told + ", n of key 1", x.raise(1, n, false), PacketDesk.BAD);
        CHECKS.due(told + ", no key 2", x.raise(2, 0, false), PacketDesk.BAD);
    }

    private static int[] signed(int... bytes) {
        PacketDesk x = before(bytes);
        x.sign(0);
        return Checks.bytesOf(x);
    }

    private static int[] changed(int[] bytes, int place, int v) {
        int[] other = bytes.clone();
        other[place] = v;
        return other;
    }

    private static void add() {
        int[] most = Checks.climbing(120);
        refused("add(-1)", PacketDesk.BAD, Checks.row(1, 2), x -> x.add(-1));
        refused("add(256)", PacketDesk.BAD, Checks.row(), x -> x.add(256));
        refused("add(256)", PacketDesk.BAD, most, x -> x.add(256));
        refused("add(0)", PacketDesk.FULL, most, x -> x.add(0));
        refused("add(255)", PacketDesk.FULL, most, x -> x.add(255));
    }

    private static void at() {
        refused("at(-1)", -1, Checks.row(1, 2), x -> x.at(-1));
        refused("at(2)", -1, Checks.row(1, 2), x -> x.at(2));
        refused("at(120)", -1, Checks.climbing(120), x -> x.at(120));
    }

    private static void set() {
        refused("set(2, 3)", PacketDesk.BAD, Checks.row(1, 2), x -> x.set(2, 3));
        refused("set(-1, 3)", PacketDesk.BAD, Checks.row(1, 2), x -> x.set(-1, 3));
        refused("set(0, 3)", PacketDesk.BAD, Checks.row(), x -> x.set(0, 3));
        refused("set(0, 256)", PacketDesk.BAD, Checks.row(1, 2), x -> x.set(0, 256));
        refused("set(1, -1)", PacketDesk.BAD, Checks.row(1, 2), x -> x.set(1, -1));
        refused("set(120, 3)", PacketDesk.BAD, Checks.climbing(120), x -> x.set(120, 3));
    }

    private static void wrap() {
        refused("wrap(0, 0)", PacketDesk.BAD, Checks.row(1, 2), x -> x.wrap(0, 0));
        refused("wrap(16, 8)", PacketDesk.BAD, Checks.row(1, 2), x -> x.wrap(16, 8));
        refused("wrap(1, -1)", PacketDesk.BAD, Checks.row(1, 2), x -> x.wrap(1, -1));
        refused("wrap(1, 9)", PacketDesk.BAD, Checks.row(1, 2), x -> x.wrap(1, 9));
        // One byte more than each sort can wrap, and as many as there can be.
        int[] tooLong = {118, 60, 80, 96, 106, 112, 119, 118, 120};
        for (int sort = 0; sort <= 8; sort++) {
            int s = sort;
            String what = "wrap(5, " + sort + ")";
            refused(what, PacketDesk.FULL, Checks.climbing(tooLong[sort]), x -> x.wrap(5, s));
            refused(what, PacketDesk.FULL, Checks.climbing(120), x -> x.wrap(5, s));
        }
    }

    private static void unwrap(int fault, int... bytes) {
        refused("unwrap()", fault, bytes, x -> x.unwrap());
    }

    private static void unwrapBad() {
        unwrap(PacketDesk.BAD, 0);
        unwrap(PacketDesk.BAD, 127, 1, 9);
        unwrap(PacketDesk.BAD, 128, 1, 9);
        unwrap(PacketDesk.BAD, 134, 1, 9);
        unwrap(PacketDesk.BAD, 192, 1, 9);
        unwrap(PacketDesk.BAD, 208, 1, 9);
        unwrap(PacketDesk.BAD, 255, 1, 9);
    }

    private static void unwrapShort() {
        unwrap(PacketDesk.SHORT);
        unwrap(PacketDesk.SHORT, 193);
        unwrap(PacketDesk.SHORT, 193, 2, 9);
        unwrap(PacketDesk.SHORT, 193, 192);
        unwrap(PacketDesk.SHORT, 193, 192, 0, 9);
        unwrap(PacketDesk.SHORT, 193, 225, 9);
        unwrap(PacketDesk.SHORT, 193, 224, 9, 224, 8);
        unwrap(PacketDesk.SHORT, 193, 224, 9, 3, 8);
        unwrap(PacketDesk.SHORT, 132);
        unwrap(PacketDesk.SHORT, 132, 2, 9);
        unwrap(PacketDesk.SHORT, 133, 0);
        unwrap(PacketDesk.SHORT, 133, 0, 2, 9);
    }

    private static void unwrapWrong() {
        unwrap(PacketDesk.WRONG, 193, 24);
        unwrap(PacketDesk.WRONG, 193, 224, 9, 193);
        unwrap(PacketDesk.WRONG, 193, 224, 9, 229, 8);
        unwrap(PacketDesk.WRONG, 193, 1, 9, 8);
        unwrap(PacketDesk.WRONG, 193, 224, 9, 1, 8, 7);
        unwrap(PacketDesk.WRONG, 132, 1, 9, 8);
        unwrap(PacketDesk.WRONG, 133, 0, 1, 9, 8);
    }

    private static void pack() {
        refused("pack()", PacketDesk.FULL, Checks.climbing(119), x -> x.pack());
        refused("pack()", PacketDesk.FULL, Checks.climbing(120), x -> x.pack());
    }

    private static void unpack(int fault, int... bytes) {
        refused("unpack()", fault, bytes, x -> x.unpack());
    }

    private static void unpackWrong() {
        unpack(PacketDesk.WRONG, 64);
        unpack(PacketDesk.WRONG, 127, 1);
        unpack(PacketDesk.WRONG, 192, 1);
        unpack(PacketDesk.WRONG, 129, 7, 0, 8, 255);
    }

    private static void unpackShort() {
        unpack(PacketDesk.SHORT, 0);
        unpack(PacketDesk.SHORT, 128);
        unpack(PacketDesk.SHORT, 2, 7, 8);
        unpack(PacketDesk.SHORT, 129, 7, 1, 8);
        unpack(PacketDesk.SHORT, 1, 7, 8, 130);
    }

    private static void unpackFull() {
        unpack(PacketDesk.FULL, 191, 7, 128 + 52, 8);
        unpack(PacketDesk.FULL, 191, 7, 191, 8);
        unpack(PacketDesk.FULL, 191, 7, 128 + 51, 8, 0, 9);
    }

    private static void encipher() {
        refused("encipher(1, 2)", PacketDesk.FULL, Checks.climbing(115), x -> x.encipher(1, 2));
        refused("encipher(1, 2)", PacketDesk.FULL, Checks.climbing(120), x -> x.encipher(1, 2));
    }

    private static void decipher() {
        PacketDesk y = Checks.desk(1, 2, 3);
        y.encipher(5, 6);
        int[] good = Checks.bytesOf(y);
        refused("decipher(5)", PacketDesk.SHORT, Checks.row(), x -> x.decipher(5));
        refused("decipher(5)", PacketDesk.SHORT, Checks.first(5, good), x -> x.decipher(5));
        refused("decipher(5)", PacketDesk.WRONG, changed(good, 4, good[4] ^ 1), x -> x.decipher(5));
        refused("decipher(5)", PacketDesk.WRONG, changed(good, 5, good[5] ^ 1), x -> x.decipher(5));
        refused("decipher(7)", PacketDesk.WRONG, good, x -> x.decipher(7));
        refused("decipher(7)", PacketDesk.WRONG, Checks.climbing(120), x -> x.decipher(7));
    }

    private static void key(int k, int p, int q, int e) {
        String what = "key(" + k + ", " + p + ", " + q + ", " + e + ")";
        refused(what, PacketDesk.BAD, Checks.row(1, 2), x -> x.key(k, p, q, e));
    }

    /** Each reason, for the key that is there, for the one that is not, and for one outside. */
    private static void key() {
        key(-1, 263, 269, 3);
        key(3, 263, 269, 3);
        for (int k = 0; k <= 2; k++) {
            key(k, 251, 269, 3);
            key(k, 263, 251, 3);
            key(k, 46349, 269, 3);
            key(k, 263, 46349, 3);
            key(k, 265, 269, 3);
            key(k, 263, 265, 3);
            key(k, 269, 269, 3);
            key(k, 263, 269, 1);
            key(k, 263, 269, 2);
            key(k, 263, 269, 65539);
            key(k, 263, 269, 131);
            key(k, 263, 269, 67);
        }
    }

    private static void sign() {
        refused("sign(2)", PacketDesk.BAD, Checks.row(1, 2), x -> x.sign(2));
        refused("sign(-1)", PacketDesk.BAD, Checks.row(1, 2), x -> x.sign(-1));
        refused("sign(3)", PacketDesk.BAD, Checks.row(1, 2), x -> x.sign(3));
        refused("sign(2)", PacketDesk.BAD, Checks.climbing(120), x -> x.sign(2));
        for (int length = 117; length <= 120; length++) {
            refused("sign(0)", PacketDesk.FULL, Checks.climbing(length), x -> x.sign(0));
        }
    }

    private static void verify() {
        int[] good = signed(7, 8);
        refused("verify(2)", PacketDesk.BAD, good, x -> x.verify(2));
        refused("verify(-1)", PacketDesk.BAD, good, x -> x.verify(-1));
        refused("verify(3)", PacketDesk.BAD, good, x -> x.verify(3));
        for (int length = 0; length <= 3; length++) {
            refused("verify(0)", PacketDesk.SHORT, Checks.climbing(length), x -> x.verify(0));
        }
        refused("verify(0)", PacketDesk.WRONG, changed(good, 5, good[5] ^ 1), x -> x.verify(0));
        refused("verify(0)", PacketDesk.WRONG, changed(good, 0, 9), x -> x.verify(0));
        refused("verify(0)", PacketDesk.WRONG, changed(good, 2, 255), x -> x.verify(0));
        refused("verify(1)", PacketDesk.WRONG, good, x -> x.verify(1));
    }

    private static void raise() {
        refused("raise(2, 1, false)", PacketDesk.BAD, Checks.row(1, 2), x -> x.raise(2, 1, false));
        refused("raise(-1, 1, true)", PacketDesk.BAD, Checks.row(1, 2), x -> x.raise(-1, 1, true));
        refused("raise(3, 1, true)", PacketDesk.BAD, Checks.row(1, 2), x -> x.raise(3, 1, true));
        refused("raise(0, 67591, false)", PacketDesk.BAD, Checks.row(1, 2), x -> x.raise(0, 67591, false));
        refused("raise(0, -1, true)", PacketDesk.BAD, Checks.row(1, 2), x -> x.raise(0, -1, true));
    }

    private static void letters() {
        refused("letters()", PacketDesk.FULL, Checks.climbing(85), x -> x.letters());
        refused("letters()", PacketDesk.FULL, Checks.climbing(120), x -> x.letters());
    }

    private static void plain(int fault, String letters) {
        refused("plain()", fault, Checks.codes(letters), x -> x.plain());
    }

    private static void plain() {
        plain(PacketDesk.SHORT, "");
        plain(PacketDesk.SHORT, "=twT");
        plain(PacketDesk.SHORT, "=twTO=");
        plain(PacketDesk.SHORT, "TWFuI=DIjh");
        plain(PacketDesk.WRONG, "AtwTO");
        plain(PacketDesk.WRONG, "=twTN");
        plain(PacketDesk.WRONG, "=tw.O");
        plain(PacketDesk.WRONG, "TWFuTWF.=DIjh");
        plain(PacketDesk.WRONG, "TWFuT===MBvK=");
        plain(PacketDesk.WRONG, "TWFuIQ===MBvL");
        plain(PacketDesk.WRONG, "TWFuIf=o=GnpC");
        refused("plain()", PacketDesk.WRONG, Checks.same('A', 117), x -> x.plain());
    }

    /** A HASH may be below 0 as an int; it changes nothing either, and nor does the 0 of stretch. */
    private static void answersBelowZero() {
        refused("hash()", -30411120, Checks.row(1, 2, 3), x -> x.hash());
        refused("stretch(16909060, 1)", -578842336, Checks.row(9), x -> x.stretch(0x01020304, 1));
        refused("stretch(5, 2001)", 0, Checks.row(9), x -> x.stretch(5, 2001));
        refused("stretch(5, -1)", 0, Checks.row(9), x -> x.stretch(5, -1));
    }
}
