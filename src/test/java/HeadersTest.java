/** Promises 6 and 7: wrap and unwrap. */
public final class HeadersTest {
    private static final Checks CHECKS = new Checks();

    public static void main(String[] args) {
        wrapShort();
        wrapEmpty();
        wrapLong();
        wrapPartial();
        wrapBad();
        wrapFull();
        thereAndBack();
        firstByte();
        oldSizes();
        newSizes();
        newPieces();
        firstFaultCounts();
        bytesOfBefore();
        CHECKS.finish();
    }

    private static void wrapTo(String what, int[] body, int tag, int sort, int... want) {
        PacketDesk x = Checks.desk(body);
        CHECKS.due(what, x.wrap(tag, sort), want.length);
        CHECKS.holds(what, x, want);
    }

    private static void wrapShort() {
        int[] body = {10, 20, 30};
        wrapTo("sort 0", body, 1, 0, 193, 3, 10, 20, 30);
        wrapTo("sort 1", body, 2, 1, 194, 224, 10, 224, 20, 224, 30, 0);
        wrapTo("sort 2", body, 3, 2, 195, 225, 10, 20, 1, 30);
        wrapTo("sort 3", body, 15, 3, 207, 3, 10, 20, 30);
        wrapTo("sort 6", body, 7, 6, 156, 3, 10, 20, 30);
        wrapTo("sort 7", body, 8, 7, 161, 0, 3, 10, 20, 30);
        wrapTo("sort 8", body, 9, 8, 167, 10, 20, 30);
        wrapTo("old tag 1", body, 1, 6, 132, 3, 10, 20, 30);
        wrapTo("old tag 15", body, 15, 8, 191, 10, 20, 30);
    }

    private static void wrapEmpty() {
        for (int sort = 0; sort <= 5; sort++) {
            wrapTo("empty, sort " + sort, Checks.row(), 4, sort, 196, 0);
        }
        wrapTo("empty, sort 6", Checks.row(), 4, 6, 144, 0);
        wrapTo("empty, sort 7", Checks.row(), 4, 7, 145, 0, 0);
        wrapTo("empty, sort 8", Checks.row(), 4, 8, 147);
    }

    private static void wrapLong() {
        int[] b23 = Checks.climbing(23);
        int[] b24 = Checks.climbing(24);
        int[] b117 = Checks.climbing(117);
        wrapTo("23", b23, 1, 0, Checks.join(Checks.row(193, 23), b23));
        wrapTo("24", b24, 1, 0, Checks.join(Checks.row(193, 192, 0), b24));
        wrapTo("117", b117, 1, 0, Checks.join(Checks.row(193, 192, 93), b117));
        wrapTo("117 old", b117, 1, 7, Checks.join(Checks.row(133, 0, 117), b117));
    }

    private static void wrapPartial() {
        int[] b = Checks.climbing(33);
        for (int sort = 1; sort <= 5; sort++) {
            int size = 1 << (sort - 1);
            int[] want = {192 + 6};
            int done = 0;
            for (; done + size <= b.length; done += size) {
                int[] piece = java.util.Arrays.copyOfRange(b, done, done + size);
                want = Checks.join(want, Checks.row(224 + sort - 1), piece);
            }
            int[] rest = java.util.Arrays.copyOfRange(b, done, b.length);
            want = Checks.join(want, Checks.row(rest.length), rest);
            wrapTo("33, sort " + sort, b, 6, sort, want);
        }
        int[] b16 = Checks.climbing(16);
        wrapTo("just 16", b16, 6, 5, Checks.join(Checks.row(198, 228), b16, Checks.row(0)));
        int[] b15 = Checks.climbing(15);
        wrapTo("just 15", b15, 6, 5, Checks.join(Checks.row(198, 15), b15));
    }

    private static void wrapBad() {
        PacketDesk x = Checks.desk(1, 2);
        int[][] bad = {{0, 0}, {16, 0}, {-1, 0}, {1, -1}, {1, 9}, {0, 9}, {17, 8},
            {Integer.MIN_VALUE, 0}, {Integer.MAX_VALUE, 0}, {1, Integer.MIN_VALUE}, {1, Integer.MAX_VALUE}};
        for (int[] pair : bad) {
            CHECKS.due("wrap(" + pair[0] + ", " + pair[1] + ")", x.wrap(pair[0], pair[1]), PacketDesk.BAD);
        }
        CHECKS.holds("wrap BAD", x, 1, 2);
    }

    private static void wrapFull() {
        int[] longest = {117, 59, 79, 95, 105, 111, 118, 117, 119};
        for (int sort = 0; sort <= 8; sort++) {
            PacketDesk x = Checks.desk(Checks.climbing(longest[sort]));
            int want = sort == 5 ? 119 : 120;
            CHECKS.due("longest of sort " + sort, x.wrap(1, sort), want);
            int[] more = Checks.climbing(longest[sort] + 1);
            PacketDesk y = Checks.desk(more);
            CHECKS.due("too long for sort " + sort, y.wrap(1, sort), PacketDesk.FULL);
            CHECKS.holds("too long for sort " + sort, y, more);
        }
    }

    private static void thereAndBack() {
        for (int sort = 0; sort <= 8; sort++) {
            for (int length = 0; length <= 59; length++) {
                int[] body = Checks.climbing(length);
                PacketDesk x = Checks.desk(body);
                int tag = 1 + length % 15;
                x.wrap(tag, sort);
                CHECKS.due("unwrap of sort " + sort, x.unwrap(), tag);
                CHECKS.holds("unwrap of sort " + sort, x, body);
            }
        }
    }

    private static void unwrapAnswers(int want, int... bytes) {
        PacketDesk x = Checks.desk(bytes);
        String what = "unwrap of " + java.util.Arrays.toString(bytes);
        CHECKS.due(what, x.unwrap(), want);
        if (want < 0) {
            CHECKS.holds(what, x, bytes);
        }
    }

    private static void firstByte() {
        unwrapAnswers(PacketDesk.SHORT);
        for (int head = 0; head < 256; head++) {
            boolean isNew = head >= 192;
            int tag = isNew ? head - 192 : (head / 4) % 16;
            boolean bad = head < 128 || tag == 0 || tag > 15 || (!isNew && head % 4 == 2);
            int good = !isNew && head % 4 == 3 ? tag : PacketDesk.SHORT;
            unwrapAnswers(bad ? PacketDesk.BAD : good, head);
            // An empty body in each sort; two zeros are one too many where one is due.
            int ofTwo = !isNew && head % 4 == 1 ? PacketDesk.SHORT : tag;
            unwrapAnswers(bad ? PacketDesk.BAD : ofTwo, head, 0);
        }
    }

    private static void oldSizes() {
        unwrapAnswers(PacketDesk.SHORT, 132, 3, 1, 2);
        unwrapAnswers(1, 132, 3, 1, 2, 3);
        unwrapAnswers(PacketDesk.WRONG, 132, 3, 1, 2, 3, 4);
        unwrapAnswers(PacketDesk.SHORT, 132, 255, 1);
        unwrapAnswers(PacketDesk.SHORT, 133, 0);
        unwrapAnswers(PacketDesk.SHORT, 133, 0, 2, 9);
        unwrapAnswers(1, 133, 0, 2, 9, 8);
        unwrapAnswers(PacketDesk.WRONG, 133, 0, 2, 9, 8, 7);
        unwrapAnswers(PacketDesk.SHORT, 133, 1, 0, 9);
        unwrapAnswers(PacketDesk.SHORT, 133, 255, 255);
        unwrapAnswers(1, 135, 1, 2, 3);
        // A size that a NEW piece could not have is fine in an OLD packet.
        unwrapAnswers(1, Checks.join(Checks.row(132, 100), Checks.climbing(100)));
        unwrapAnswers(1, Checks.join(Checks.row(133, 0, 24), Checks.climbing(24)));
    }

    private static void newSizes() {
        for (int size = 0; size < 256; size++) {
            boolean known = size < 24 || size == 192 || (size >= 224 && size <= 228);
            int want = known ? PacketDesk.SHORT : PacketDesk.WRONG;
            unwrapAnswers(size == 0 ? 1 : want, 193, size);
            unwrapAnswers(size == 0 ? 1 : want, 193, 224, 55, size);
        }
        unwrapAnswers(PacketDesk.SHORT, 193, 192, 0);
        int[] b24 = Checks.climbing(24);
        unwrapAnswers(PacketDesk.SHORT, Checks.join(Checks.row(193, 192, 1), b24));
        unwrapAnswers(1, Checks.join(Checks.row(193, 192, 0), b24));
        unwrapAnswers(PacketDesk.WRONG, Checks.join(Checks.row(193, 192, 0), b24, Checks.row(0)));
        unwrapAnswers(PacketDesk.SHORT, Checks.join(Checks.row(193, 192, 255), b24));
        unwrapAnswers(1, Checks.join(Checks.row(193, 192, 93), Checks.climbing(117)));
    }

    private static void newPieces() {
        PacketDesk x = Checks.desk(207, 225, 1, 2, 224, 3, 226, 4, 5, 6, 7, 1, 8);
        CHECKS.due("mixed pieces", x.unwrap(), 15);
        CHECKS.holds("mixed pieces", x, 1, 2, 3, 4, 5, 6, 7, 8);
        int[] b24 = Checks.climbing(24);
        PacketDesk y = Checks.desk(Checks.join(Checks.row(193, 224, 9, 192, 0), b24));
        CHECKS.due("a long last piece", y.unwrap(), 1);
        CHECKS.holds("a long last piece", y, Checks.join(Checks.row(9), b24));
        unwrapAnswers(PacketDesk.SHORT, 193, 224);
        unwrapAnswers(PacketDesk.SHORT, 193, 224, 9);
        unwrapAnswers(PacketDesk.SHORT, 193, 228, 1, 2, 3);
        unwrapAnswers(PacketDesk.WRONG, 193, 224, 9, 0, 0);
        unwrapAnswers(PacketDesk.WRONG, 193, 0, 0);
    }

    private static void firstFaultCounts() {
        unwrapAnswers(PacketDesk.BAD, 134, 24);
        unwrapAnswers(PacketDesk.BAD, 192, 24);
        unwrapAnswers(PacketDesk.WRONG, 193, 24, 224);
        unwrapAnswers(PacketDesk.WRONG, 193, 224, 9, 100);
        unwrapAnswers(PacketDesk.SHORT, 193, 226, 24, 24);
    }
    /** What stood behind the end before it was cleared must not be read as a size or a body. */
    private static void bytesOfBefore() {
        int[][] rows = {{193}, {193, 2, 9}, {193, 192}, {193, 224}, {193, 224, 9}, {132}, {132, 1}, {133, 0}, {133, 0, 1}};
        int[] fillings = {0, 1, 24, 255};
        for (int filling : fillings) {
            for (int[] row : rows) {
                PacketDesk x = Checks.desk(Checks.same(filling, 120));
                x.clear();
                Checks.fill(x, row);
                CHECKS.due("unwrap of " + java.util.Arrays.toString(row) + " where " + filling + " was",
                    x.unwrap(), PacketDesk.SHORT);
            }
        }
    }
}
