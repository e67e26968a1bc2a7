/** Promise 20: which fault is told where two are there at once. */
public final class OrderTest {
    private static final Checks CHECKS = new Checks();

    public static void main(String[] args) {
        badBeforeFull();
        verify();
        decipherAndPlain();
        CHECKS.finish();
    }

    private static void badBeforeFull() {
        int[] most = Checks.climbing(120);
        PacketDesk x = Checks.desk(most);
        CHECKS.due("add(256) to 120", x.add(256), PacketDesk.BAD);
        CHECKS.due("add(-1) to 120", x.add(-1), PacketDesk.BAD);
        CHECKS.due("add(1) to 120", x.add(1), PacketDesk.FULL);
        CHECKS.due("wrap(0, 0) of 120", x.wrap(0, 0), PacketDesk.BAD);
        CHECKS.due("wrap(16, 8) of 120", x.wrap(16, 8), PacketDesk.BAD);
        CHECKS.due("wrap(1, 9) of 120", x.wrap(1, 9), PacketDesk.BAD);
        CHECKS.due("wrap(1, 0) of 120", x.wrap(1, 0), PacketDesk.FULL);
        CHECKS.due("sign(0) of 120, no key", x.sign(0), PacketDesk.BAD);
        x.key(0, 257, 263, 5);
        CHECKS.due("sign(0) of 120", x.sign(0), PacketDesk.FULL);
        CHECKS.due("sign(3) of 120", x.sign(3), PacketDesk.BAD);
        CHECKS.holds("all that", x, most);
    }

    private static void verify() {
        PacketDesk x = Checks.desk(1, 2, 3);
        CHECKS.due("verify of three bytes, no key", x.verify(0), PacketDesk.BAD);
        x.key(0, 257, 263, 5);
        CHECKS.due("verify of three bytes", x.verify(0), PacketDesk.SHORT);
        x.add(255);
        CHECKS.due("verify of four bytes, no key", x.verify(1), PacketDesk.BAD);
        CHECKS.due("verify of four bytes", x.verify(0), PacketDesk.WRONG);
    }

    private static void decipherAndPlain() {
        PacketDesk x = Checks.desk(1, 2, 3, 4, 5);
        CHECKS.due("decipher of five bytes", x.decipher(1), PacketDesk.SHORT);
        x.add(6);
        CHECKS.due("decipher of six bytes", x.decipher(1), PacketDesk.WRONG);
        CHECKS.due("plain of six bytes", x.plain(), PacketDesk.SHORT);
        x.clear();
        Checks.fill(x, 1, 2, 3, 4);
        CHECKS.due("plain of four bytes", x.plain(), PacketDesk.SHORT);
        x.add(5);
        CHECKS.due("plain of five bytes", x.plain(), PacketDesk.WRONG);
    }
}
