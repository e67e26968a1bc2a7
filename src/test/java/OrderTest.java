/** Promise 20: which fault is told where two are there at once. */
public final class OrderTest {
    private static final Checks CHECKS = new Checks();

    public static void main(String[] args) {
        tell(CHECKS);
        CHECKS.finish();
    }

    static void tell(Telling doc) {
        doc.part("Promise 20: Order and limits");
        doc.says("add,", OrderTest::add);
        doc.says("wrap", OrderTest::wrap);
        doc.says("and sign: BAD is tested before FULL.", OrderTest::sign);
        doc.says("verify: BAD, then SHORT, then WRONG.", OrderTest::verify);
        doc.says("decipher", OrderTest::decipher);
        doc.says("and plain: SHORT is tested before WRONG.", OrderTest::plain);
    }

    private static PacketDesk fullDesk() {
        return Checks.desk(Checks.climbing(120));
    }

    private static void add() {
        PacketDesk x = fullDesk();
        int[] noBytes = {256, -1, Integer.MIN_VALUE, Integer.MAX_VALUE};
        for (int b : noBytes) {
            CHECKS.due("add(" + b + ") to 120", x.add(b), PacketDesk.BAD);
        }
        CHECKS.due("add(0) to 120", x.add(0), PacketDesk.FULL);
        CHECKS.due("add(255) to 120", x.add(255), PacketDesk.FULL);
    }

    private static void wrap() {
        PacketDesk x = fullDesk();
        for (int sort = 0; sort <= 8; sort++) {
            CHECKS.due("wrap(0, " + sort + ") of 120", x.wrap(0, sort), PacketDesk.BAD);
            CHECKS.due("wrap(16, " + sort + ") of 120", x.wrap(16, sort), PacketDesk.BAD);
            CHECKS.due("wrap(1, " + sort + ") of 120", x.wrap(1, sort), PacketDesk.FULL);
            CHECKS.due("wrap(15, " + sort + ") of 120", x.wrap(15, sort), PacketDesk.FULL);
        }
        for (int tag = 1; tag <= 15; tag++) {
            CHECKS.due("wrap(" + tag + ", -1) of 120", x.wrap(tag, -1), PacketDesk.BAD);
            CHECKS.due("wrap(" + tag + ", 9) of 120", x.wrap(tag, 9), PacketDesk.BAD);
        }
    }

    private static void sign() {
        PacketDesk x = fullDesk();
        for (int k = -1; k <= 3; k++) {
            CHECKS.due("sign(" + k + ") of 120 without keys", x.sign(k), PacketDesk.BAD);
        }
        x.key(1, 257, 263, 5);
        for (int k = -1; k <= 3; k++) {
            int want = k == 1 ? PacketDesk.FULL : PacketDesk.BAD;
            CHECKS.due("sign(" + k + ") of 120 with key 1", x.sign(k), want);
        }
    }

    private static void verify() {
        for (int length = 0; length <= 5; length++) {
            PacketDesk x = Checks.desk(Checks.same(255, length));
            CHECKS.due("verify(0) of " + length + " without keys", x.verify(0), PacketDesk.BAD);
            x.key(0, 257, 263, 5);
            int want = length < 4 ? PacketDesk.SHORT : PacketDesk.WRONG;
            CHECKS.due("verify(0) of " + length, x.verify(0), want);
            CHECKS.due("verify(1) of " + length, x.verify(1), PacketDesk.BAD);
            CHECKS.due("verify(-1) of " + length, x.verify(-1), PacketDesk.BAD);
            CHECKS.due("verify(3) of " + length, x.verify(3), PacketDesk.BAD);
        }
    }

    private static void decipher() {
        for (int length = 0; length <= 7; length++) {
            PacketDesk x = Checks.desk(Checks.climbing(length));
            int want = length < 6 ? PacketDesk.SHORT : PacketDesk.WRONG;
            CHECKS.due("decipher of " + length, x.decipher(1), want);
        }
    }

    /** No 61 and no letter is among these bytes. */
    private static void plain() {
        for (int length = 0; length <= 14; length++) {
            PacketDesk x = Checks.desk(Checks.same(7, length));
            int want = length == 5 || length == 9 || length == 13 ? PacketDesk.WRONG : PacketDesk.SHORT;
            CHECKS.due("plain of " + length, x.plain(), want);
        }
    }
}
