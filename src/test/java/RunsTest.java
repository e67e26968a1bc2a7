import java.util.Arrays;

/** Promises 8 and 9: pack and unpack. */
public final class RunsTest {
    private static final Checks CHECKS = new Checks();

    public static void main(String[] args) {
        packs();
        packEdges();
        packFull();
        unpacks();
        unpackFaults();
        unpackFull();
        firstFaultCounts();
        CHECKS.finish();
    }

    private static void packTo(int[] bytes, int... want) {
        PacketDesk x = Checks.desk(bytes);
        String what = "pack of " + Arrays.toString(bytes);
        CHECKS.due(what, x.pack(), want.length);
        CHECKS.holds(what, x, want);
        CHECKS.due("unpack after " + what, x.unpack(), bytes.length);
        CHECKS.holds("unpack after " + what, x, bytes);
    }

    private static void packs() {
        packTo(Checks.row());
        packTo(Checks.row(5), 0, 5);
        packTo(Checks.row(5, 5), 1, 5, 5);
        packTo(Checks.row(5, 5, 5), 128, 5);
        packTo(Checks.row(5, 5, 5, 5), 129, 5);
        packTo(Checks.row(1, 5, 5, 5, 2), 0, 1, 128, 5, 0, 2);
        packTo(Checks.row(5, 5, 6, 6, 6, 6, 7, 8, 8, 9, 9, 9), 1, 5, 5, 129, 6, 2, 7, 8, 8, 128, 9);
        packTo(Checks.row(0, 0, 0, 255, 255, 255), 128, 0, 128, 255);
        packTo(Checks.row(1, 2, 1, 2, 1, 2), 5, 1, 2, 1, 2, 1, 2);
    }

    private static void packEdges() {
        packTo(Checks.same(9, 66), 191, 9);
        packTo(Checks.same(9, 67), 191, 9, 0, 9);
        packTo(Checks.same(9, 68), 191, 9, 1, 9, 9);
        packTo(Checks.same(9, 69), 191, 9, 128, 9);
        packTo(Checks.same(9, 120), 191, 9, 128 + 51, 9);
        packTo(Checks.join(Checks.same(9, 67), Checks.row(8, 8, 8)), 191, 9, 0, 9, 128, 8);
        int[] b64 = Checks.climbing(64);
        int[] b65 = Checks.climbing(65);
        packTo(b64, Checks.join(Checks.row(63), b64));
        packTo(b65, Checks.join(Checks.row(63), b64, Checks.row(0, b65[64])));
        int[] run = {200, 200, 200};
        packTo(Checks.join(b64, run), Checks.join(Checks.row(63), b64, Checks.row(128, 200)));
        // A row of 64 may end inside a pair; what is left of the pair starts the next row.
        int[] b63 = Checks.climbing(63);
        packTo(Checks.join(b63, Checks.row(200, 200)),
            Checks.join(Checks.row(63), b63, Checks.row(200, 0, 200)));
    }

    private static void packFull() {
        int[] b118 = Checks.climbing(118);
        PacketDesk x = Checks.desk(b118);
        CHECKS.due("pack of 118", x.pack(), 120);
        CHECKS.due("unpack to 118", x.unpack(), 118);
        CHECKS.holds("unpack to 118", x, b118);
        int[] b119 = Checks.climbing(119);
        PacketDesk y = Checks.desk(b119);
        CHECKS.due("pack of 119", y.pack(), PacketDesk.FULL);
        CHECKS.holds("pack of 119", y, b119);
    }

    private static void unpackAnswers(int want, int... bytes) {
        PacketDesk x = Checks.desk(bytes);
        String what = "unpack of " + Arrays.toString(bytes);
        CHECKS.due(what, x.unpack(), want);
        if (want < 0) {
            CHECKS.holds(what, x, bytes);
        }
    }

    private static void unpacks() {
        unpackAnswers(0);
        unpackAnswers(3, 128, 7);
        unpackAnswers(66, 191, 7);
        unpackAnswers(1, 0, 7);
        // Rows that pack would not write are still read.
        PacketDesk x = Checks.desk(0, 7, 0, 7, 2, 7, 7, 7, 128, 7);
        CHECKS.due("unpack of other rows", x.unpack(), 8);
        CHECKS.holds("unpack of other rows", x, Checks.same(7, 8));
    }

    private static void unpackFaults() {
        for (int mark = 0; mark < 256; mark++) {
            boolean known = mark < 64 || (mark >= 128 && mark < 192);
            unpackAnswers(known ? PacketDesk.SHORT : PacketDesk.WRONG, mark);
            unpackAnswers(known ? PacketDesk.SHORT : PacketDesk.WRONG, 128, 1, mark);
        }
        unpackAnswers(PacketDesk.SHORT, 1, 5);
        unpackAnswers(PacketDesk.SHORT, 3, 5, 5, 5);
        unpackAnswers(4, 3, 5, 5, 5, 5);
        unpackAnswers(PacketDesk.SHORT, Checks.join(Checks.row(63), Checks.climbing(63)));
    }

    private static void unpackFull() {
        unpackAnswers(120, 191, 1, 128 + 51, 2);
        unpackAnswers(PacketDesk.FULL, 191, 1, 128 + 52, 2);
        unpackAnswers(PacketDesk.FULL, 191, 1, 191, 1);
        unpackAnswers(120, 191, 1, 128 + 48, 2, 2, 3, 4, 5);
        unpackAnswers(PacketDesk.FULL, 191, 1, 128 + 48, 2, 3, 3, 4, 5, 6);
    }

    private static void firstFaultCounts() {
        unpackAnswers(PacketDesk.FULL, 191, 1, 191, 1, 64);
        unpackAnswers(PacketDesk.FULL, 191, 1, 191, 1, 128);
        unpackAnswers(PacketDesk.WRONG, 191, 1, 64, 191, 1);
        unpackAnswers(PacketDesk.WRONG, 64, 128);
        // The row that would be too long is SHORT before it is FULL.
        unpackAnswers(PacketDesk.SHORT, 191, 1, 128 + 50, 1, 3, 1, 1, 1);
        unpackAnswers(PacketDesk.SHORT, 191, 1, 128 + 51, 1, 191);
        unpackAnswers(PacketDesk.SHORT, 5, 64, 64);
    }
}
