import java.util.Arrays;

/** RUNS, and promises 8 and 9: pack and unpack. */
public final class RunsTest {
    private static final Checks CHECKS = new Checks();

    public static void main(String[] args) {
        tell(CHECKS);
        CHECKS.finish();
    }

    static void tell(Telling doc) {
        doc.part("Terms");
        doc.says("RUNS. Packed bytes are a row of: n (0..63) and n + 1 bytes, which stand for themselves;",
            RunsTest::literals);
        doc.says("or 128 + n (0..63) and a byte, which stands n + 3 times.", RunsTest::runs);
        doc.says("To pack: from the left, where a byte stands three or more times from here on,",
            RunsTest::threeOrMore);
        doc.says("it is taken as often as it does,", RunsTest::asOftenAsItDoes);
        doc.says("at most 66 times;", RunsTest::atMost66);
        doc.says("elsewhere all bytes up to where one stands three or more times,", RunsTest::upToARun);
        doc.says("or the end,", RunsTest::upToTheEnd);
        doc.says("at most 64.", RunsTest::atMost64);

        doc.part("Promise 8: pack");
        doc.says("Packs the runs of the WORK.", RunsTest::packs);

        doc.part("Promise 9: unpack");
        doc.says("The WORK was packed and is as before.", RunsTest::unpacks);
        doc.says("WRONG for a number 64..127", RunsTest::number64);
        doc.says("or above 191,", RunsTest::number192);
        doc.says("SHORT if bytes are missing,", RunsTest::bytesMissing);
        doc.says("FULL;", RunsTest::unpackFull);
        doc.says("the first that is met", RunsTest::firstFault);
        doc.says("(a SHORT row is not looked at further).", RunsTest::shortRow);
    }

    private static void packTo(int[] bytes, int... want) {
        PacketDesk x = Checks.usedDesk(bytes.length == 0 ? 0 : bytes[bytes.length - 1], bytes);
        String what = "pack of " + Arrays.toString(bytes);
        CHECKS.due(what, x.pack(), want.length);
        CHECKS.holds(what, x, want);
    }

    private static void unpackTo(int[] bytes, int... want) {
        PacketDesk x = Checks.desk(bytes);
        String what = "unpack of " + Arrays.toString(bytes);
        CHECKS.due(what, x.unpack(), want.length);
        CHECKS.holds(what, x, want);
    }

    /** On a desk where the bytes behind the end are left of before, for they must not be read. */
    private static void refuses(int fault, int... bytes) {
        int[] fillings = {0, 64, 255};
        for (int filling : fillings) {
            PacketDesk x = Checks.usedDesk(filling, bytes);
            String what = "unpack of " + Arrays.toString(bytes) + " where " + filling + " was";
            CHECKS.due(what, x.unpack(), fault);
            CHECKS.holds(what, x, bytes);
        }
    }

    private static int[] literal(int[] bytes) {
        return Checks.join(Checks.row(bytes.length - 1), bytes);
    }

    private static void literals() {
        for (int n = 0; n < 64; n++) {
            int[] bytes = Checks.climbing(n + 1);
            unpackTo(literal(bytes), bytes);
            packTo(bytes, literal(bytes));
            int[] same = Checks.same(9, n + 1);
            unpackTo(literal(same), same);
        }
        unpackTo(Checks.row(2, 64, 128, 255), 64, 128, 255);
    }

    private static void runs() {
        for (int n = 0; n < 64; n++) {
            unpackTo(Checks.row(128 + n, 9), Checks.same(9, n + 3));
            packTo(Checks.same(9, n + 3), 128 + n, 9);
        }
        unpackTo(Checks.row(128, 255, 128, 64), 255, 255, 255, 64, 64, 64);
    }

    private static void threeOrMore() {
        packTo(Checks.row(5, 5), 1, 5, 5);
        packTo(Checks.row(5, 5, 5), 128, 5);
        packTo(Checks.row(0, 0), 1, 0, 0);
        packTo(Checks.row(0, 0, 0), 128, 0);
        packTo(Checks.row(5, 5, 6, 6), 3, 5, 5, 6, 6);
        packTo(Checks.row(5, 5, 6, 5), 3, 5, 5, 6, 5);
        packTo(Checks.row(5, 5, 6, 6, 6), 1, 5, 5, 128, 6);
        packTo(Checks.row(5, 5, 5, 6, 6), 128, 5, 1, 6, 6);
    }

    private static void asOftenAsItDoes() {
        packTo(Checks.row(5, 5, 5, 5), 129, 5);
        packTo(Checks.row(5, 5, 5, 5, 6), 129, 5, 0, 6);
        packTo(Checks.row(5, 5, 5, 5, 6, 6, 6, 6, 6), 129, 5, 130, 6);
        packTo(Checks.join(Checks.same(5, 65), Checks.row(6)), 190, 5, 0, 6);
    }

    private static void atMost66() {
        packTo(Checks.same(9, 65), 190, 9);
        packTo(Checks.same(9, 66), 191, 9);
        packTo(Checks.same(9, 67), 191, 9, 0, 9);
        packTo(Checks.same(9, 68), 191, 9, 1, 9, 9);
        packTo(Checks.same(9, 69), 191, 9, 128, 9);
        packTo(Checks.same(9, 120), 191, 9, 128 + 51, 9);
        packTo(Checks.join(Checks.same(9, 67), Checks.row(8, 8, 8)), 191, 9, 0, 9, 128, 8);
        packTo(Checks.join(Checks.same(9, 68), Checks.row(8)), 191, 9, 2, 9, 9, 8);
    }

    private static void upToARun() {
        packTo(Checks.row(1, 5, 5, 5), 0, 1, 128, 5);
        packTo(Checks.row(1, 2, 5, 5, 5, 2), 1, 1, 2, 128, 5, 0, 2);
        packTo(Checks.row(5, 5, 6, 6, 6, 6, 7, 8, 8, 9, 9, 9), 1, 5, 5, 129, 6, 2, 7, 8, 8, 128, 9);
        packTo(Checks.row(1, 5, 5, 2, 2, 2), 2, 1, 5, 5, 128, 2);
    }

    private static void upToTheEnd() {
        packTo(Checks.row(5), 0, 5);
        packTo(Checks.row(1, 2, 1, 2, 1, 2), 5, 1, 2, 1, 2, 1, 2);
        // Two at the end are no run, whatever stood behind them before.
        packTo(Checks.row(1, 5, 5), 2, 1, 5, 5);
        packTo(Checks.row(5, 5, 5, 1, 7, 7), 128, 5, 2, 1, 7, 7);
    }

    private static void atMost64() {
        int[] b63 = Checks.climbing(63);
        int[] b64 = Checks.climbing(64);
        int[] b65 = Checks.climbing(65);
        int[] run = {200, 200, 200};
        packTo(b63, literal(b63));
        packTo(b64, literal(b64));
        packTo(b65, Checks.join(literal(b64), Checks.row(0, b65[64])));
        packTo(Checks.join(b63, run), Checks.join(literal(b63), Checks.row(128, 200)));
        packTo(Checks.join(b64, run), Checks.join(literal(b64), Checks.row(128, 200)));
        packTo(Checks.join(b65, run), Checks.join(literal(b64), Checks.row(0, b65[64], 128, 200)));
        // A row of 64 may end inside a pair; what is left of the pair starts the next row.
        packTo(Checks.join(b63, Checks.row(200, 200)),
            Checks.join(Checks.row(63), b63, Checks.row(200, 0, 200)));
        packTo(Checks.join(b63, Checks.row(200, 200, 7, 7, 7)),
            Checks.join(Checks.row(63), b63, Checks.row(200, 0, 200, 128, 7)));
        int[] b118 = Checks.climbing(118);
        packTo(b118, Checks.join(literal(b64), literal(Arrays.copyOfRange(b118, 64, 118))));
    }

    private static void packs() {
        packTo(Checks.row());
        packTo(Checks.row(0, 0, 0, 255, 255, 255), 128, 0, 128, 255);
        // Packed bytes are packed again like others.
        packTo(Checks.row(128, 128, 128, 128), 129, 128);
        int[] b58 = Checks.climbing(58);
        packTo(Checks.join(b58, Checks.same(9, 4), b58), Checks.join(literal(b58), Checks.row(129, 9), literal(b58)));
        PacketDesk x = Checks.desk(Checks.climbing(118));
        CHECKS.due("pack of 118", x.pack(), 120);
        for (int length = 119; length <= 120; length++) {
            PacketDesk y = Checks.desk(Checks.climbing(length));
            CHECKS.due("pack of " + length, y.pack(), PacketDesk.FULL);
            CHECKS.holds("pack of " + length, y, Checks.climbing(length));
        }
    }

    private static void unpacks() {
        unpackTo(Checks.row());
        int[][] rows = {{}, {5}, {5, 5}, {5, 5, 5}, {1, 5, 5, 5, 2}, Checks.same(9, 66), Checks.same(9, 67),
            Checks.same(9, 68), Checks.same(9, 120), Checks.climbing(64), Checks.climbing(65), Checks.climbing(118),
            Checks.join(Checks.climbing(64), Checks.same(200, 56))};
        for (int[] row : rows) {
            PacketDesk x = Checks.desk(row);
            x.pack();
            CHECKS.due("unpack after pack of " + row.length, x.unpack(), row.length);
            CHECKS.holds("unpack after pack of " + row.length, x, row);
        }
        // Rows that pack would not write are still read.
        unpackTo(Checks.row(0, 7, 0, 7, 2, 7, 7, 7, 128, 7), Checks.same(7, 8));
        unpackTo(Checks.join(Checks.row(63), Checks.same(7, 64)), Checks.same(7, 64));
    }

    private static void number64() {
        for (int number = 64; number <= 127; number++) {
            refuses(PacketDesk.WRONG, number);
            refuses(PacketDesk.WRONG, 128, 1, number);
            refuses(PacketDesk.WRONG, 0, 1, number, 1);
            refuses(PacketDesk.WRONG, Checks.join(Checks.row(number), Checks.climbing(119)));
        }
    }

    private static void number192() {
        for (int number = 192; number <= 255; number++) {
            refuses(PacketDesk.WRONG, number);
            refuses(PacketDesk.WRONG, number, 1);
            refuses(PacketDesk.WRONG, 128, 1, number);
            refuses(PacketDesk.WRONG, 0, 1, number, 1);
        }
    }

    private static void bytesMissing() {
        for (int n = 0; n < 64; n++) {
            refuses(PacketDesk.SHORT, 128 + n);
            refuses(PacketDesk.SHORT, 0, 1, 128 + n);
            int[] whole = literal(Checks.climbing(n + 1));
            refuses(PacketDesk.SHORT, n);
            refuses(PacketDesk.SHORT, Checks.first(whole.length - 1, whole));
            refuses(PacketDesk.SHORT, Checks.join(Checks.row(128, 1), Checks.first(whole.length - 1, whole)));
        }
        missingAtTheLastPlace();
    }

    /** The last of 120 bytes tells that more would follow, but there is no place behind it. */
    private static void missingAtTheLastPlace() {
        int[] most = {1, 5, 6};
        for (int row = 0; row < 58; row++) {
            most = Checks.join(most, Checks.row(0, row));
        }
        CHECKS.due("bytes before the last place", most.length, 119);
        int[] last = {0, 63, 128, 191};
        for (int number : last) {
            refuses(PacketDesk.SHORT, Checks.join(most, Checks.row(number)));
        }
        refuses(PacketDesk.WRONG, Checks.join(most, Checks.row(64)));
        refuses(PacketDesk.WRONG, Checks.join(most, Checks.row(192)));
    }

    private static void unpackFull() {
        unpackTo(Checks.row(191, 1, 128 + 51, 2), Checks.join(Checks.same(1, 66), Checks.same(2, 54)));
        refuses(PacketDesk.FULL, 191, 1, 128 + 52, 2);
        refuses(PacketDesk.FULL, 191, 1, 191, 1);
        int[] b54 = Checks.climbing(54);
        int[] b55 = Checks.climbing(55);
        unpackTo(Checks.join(Checks.row(191, 1), literal(b54)), Checks.join(Checks.same(1, 66), b54));
        refuses(PacketDesk.FULL, Checks.join(Checks.row(191, 1), literal(b55)));
        refuses(PacketDesk.FULL, 191, 1, 128 + 51, 2, 0, 3);
        refuses(PacketDesk.FULL, 191, 1, 128 + 51, 2, 128, 3);
        // Far above: 60 rows of 66.
        int[] far = {};
        for (int row = 0; row < 60; row++) {
            far = Checks.join(far, Checks.row(191, row));
        }
        refuses(PacketDesk.FULL, far);
    }

    private static void firstFault() {
        refuses(PacketDesk.FULL, 191, 1, 191, 1, 64);
        refuses(PacketDesk.FULL, 191, 1, 191, 1, 192);
        refuses(PacketDesk.FULL, 191, 1, 191, 1, 128);
        refuses(PacketDesk.FULL, 191, 1, 191, 1, 5, 1);
        refuses(PacketDesk.WRONG, 191, 1, 64, 191, 1);
        refuses(PacketDesk.WRONG, 64, 128);
        refuses(PacketDesk.WRONG, 255, 191, 1, 191, 1);
        refuses(PacketDesk.WRONG, 191, 1, 128 + 51, 2, 64);
        refuses(PacketDesk.SHORT, 191, 1, 128 + 50, 2, 63);
    }

    private static void shortRow() {
        // The bytes that are there are neither taken as numbers nor counted.
        refuses(PacketDesk.SHORT, 5, 64, 64);
        refuses(PacketDesk.SHORT, 3, 192, 255, 64);
        refuses(PacketDesk.SHORT, 191, 1, 128 + 51, 2, 191);
        refuses(PacketDesk.SHORT, 191, 1, 128 + 51, 2, 1, 3);
        refuses(PacketDesk.SHORT, 191, 1, 128 + 50, 2, 3, 1, 1, 1);
    }
}
