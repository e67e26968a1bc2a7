import java.util.Arrays;

/** HEADERS, and promises 6 and 7: wrap and unwrap. */
public final class HeadersTest {
    private static final Checks CHECKS = new Checks();

    public static void main(String[] args) {
        tell(CHECKS);
        CHECKS.finish();
    }

    static void tell(Telling doc) {
        doc.part("Terms");
        doc.says("HEADERS. A packet has a TAG 1..15 and a BODY.", HeadersTest::tagsAndBodies);
        doc.says("NEW: a byte 192 + tag, then PIECES.", HeadersTest::newHead);
        doc.says("A piece of n bytes has n before it, if n is below 24;", HeadersTest::shortPiece);
        doc.says("if n is 24 or more two bytes, 192 and n - 24;", HeadersTest::longPiece);
        doc.says("that is the last piece.", HeadersTest::lastPiece);
        doc.says("A PARTIAL piece has 224 + k (k 0..4) before it and is 2^k bytes long;",
            HeadersTest::partialPiece);
        doc.says("another piece follows it.", HeadersTest::anotherPiece);
        doc.says("OLD: a byte 128 + 4 tag + s.", HeadersTest::oldHead);
        doc.says("s 0: a byte n, the body of n bytes;", HeadersTest::oldOneByte);
        doc.says("1: two bytes, n / 256 and n % 256;", HeadersTest::oldTwoBytes);
        doc.says("3: the body is all that follows;", HeadersTest::oldAllThatFollows);
        doc.says("2 is not used.", HeadersTest::oldNotUsed);
        doc.says("(The tag is bits 2 to 5 of the byte;", HeadersTest::oldTag);
        doc.says("a byte from 192 on is NEW.)", HeadersTest::from192);

        doc.part("Promise 6: wrap");
        doc.says("The WORK becomes the body of a packet:", HeadersTest::thereAndBack);
        doc.says("sort 0 NEW in one piece;", HeadersTest::wrapOnePiece);
        doc.says("1..5 NEW, in partial pieces of 2^(sort - 1) as long as so many or more are left,",
            HeadersTest::wrapPartial);
        doc.says("then the rest (perhaps 0) as the last piece;", HeadersTest::wrapRest);
        doc.says("6, 7, 8 OLD with s 0, 1, 3.", HeadersTest::wrapOld);
        doc.says("BAD if tag is outside 1..15", HeadersTest::wrapBadTag);
        doc.says("or sort 0..8.", HeadersTest::wrapBadSort);

        doc.part("Promise 7: unwrap");
        doc.says("The WORK must be just one packet, and becomes its body: the tag.", HeadersTest::unwraps);
        doc.says("BAD if its first byte is no header (below 128,", HeadersTest::headBelow128);
        doc.says("tag 0 or above 15,", HeadersTest::headTag);
        doc.says("s 2);", HeadersTest::headNotUsed);
        doc.says("SHORT if it ends too early", HeadersTest::endsTooEarly);
        doc.says("(also if it is empty);", HeadersTest::unwrapEmpty);
        doc.says("WRONG if a byte of length is none of those said (24..191, 193..223, 229..255),",
            HeadersTest::noLength);
        doc.says("or something follows behind it.", HeadersTest::somethingFollows);
        doc.says("The first that is met from the left counts.", HeadersTest::firstFault);
    }

    private static void wrapTo(int[] body, int tag, int sort, int... want) {
        PacketDesk x = Checks.desk(body);
        String what = "wrap(" + tag + ", " + sort + ") of " + Arrays.toString(body);
        CHECKS.due(what, x.wrap(tag, sort), want.length);
        CHECKS.holds(what, x, want);
    }

    private static void unwrapTo(int[] packet, int tag, int... want) {
        PacketDesk x = Checks.desk(packet);
        String what = "unwrap of " + Arrays.toString(packet);
        CHECKS.due(what, x.unwrap(), tag);
        CHECKS.holds(what, x, want);
    }

    private static void bothWays(int[] body, int tag, int sort, int... packet) {
        wrapTo(body, tag, sort, packet);
        unwrapTo(packet, tag, body);
    }

    /** On a desk where the bytes behind the end are left of before, for they must not be read. */
    private static void refuses(int fault, int... bytes) {
        int[] fillings = {0, 1, 24, 255};
        for (int filling : fillings) {
            PacketDesk x = Checks.usedDesk(filling, bytes);
            String what = "unwrap of " + Arrays.toString(bytes) + " where " + filling + " was";
            CHECKS.due(what, x.unwrap(), fault);
            CHECKS.holds(what, x, bytes);
        }
    }

    private static int[] packet(int[] body, int tag, int sort) {
        PacketDesk x = Checks.desk(body);
        x.wrap(tag, sort);
        return Checks.bytesOf(x);
    }

    private static int[] with(int[] head, int[] rest) {
        return Checks.join(head, rest);
    }

    private static void tagsAndBodies() {
        for (int tag = 1; tag <= 15; tag++) {
            bothWays(Checks.row(), tag, 0, 192 + tag, 0);
            bothWays(Checks.row(9), tag, 0, 192 + tag, 1, 9);
            bothWays(Checks.row(), tag, 6, 128 + 4 * tag, 0);
            bothWays(Checks.row(9), tag, 6, 128 + 4 * tag, 1, 9);
        }
    }

    private static void newHead() {
        for (int tag = 1; tag <= 15; tag++) {
            for (int sort = 0; sort <= 5; sort++) {
                wrapTo(Checks.row(), tag, sort, 192 + tag, 0);
            }
            unwrapTo(Checks.row(192 + tag, 2, 8, 9), tag, 8, 9);
            refuses(PacketDesk.SHORT, 192 + tag);
        }
    }

    private static void shortPiece() {
        for (int n = 0; n < 24; n++) {
            int[] body = Checks.climbing(n);
            bothWays(body, 1, 0, with(Checks.row(193, n), body));
        }
    }

    private static void longPiece() {
        for (int n = 24; n <= 117; n++) {
            int[] body = Checks.climbing(n);
            bothWays(body, 1, 0, with(Checks.row(193, 192, n - 24), body));
        }
        // All 256 values of the second byte are lengths; those above 93 are more than the WORK can hold.
        int[] most = Checks.climbing(117);
        for (int second = 94; second < 256; second++) {
            refuses(PacketDesk.SHORT, with(Checks.row(193, 192, second), most));
        }
        refuses(PacketDesk.SHORT, 193, 192);
        refuses(PacketDesk.SHORT, 193, 192, 0);
    }

    private static void lastPiece() {
        for (int next = 0; next < 256; next++) {
            refuses(PacketDesk.WRONG, 193, 0, next);
            refuses(PacketDesk.WRONG, 193, 2, 9, 9, next);
            refuses(PacketDesk.WRONG, Checks.join(Checks.row(193, 192, 0), Checks.climbing(24), Checks.row(next)));
        }
        refuses(PacketDesk.WRONG, 193, 1, 9, 1, 9);
    }

    private static void partialPiece() {
        for (int k = 0; k <= 4; k++) {
            int[] piece = Checks.climbing(1 << k);
            int[] packet = Checks.join(Checks.row(193, 224 + k), piece, Checks.row(1, 50));
            unwrapTo(packet, 1, Checks.join(piece, Checks.row(50)));
            for (int length = 2; length < packet.length; length++) {
                refuses(PacketDesk.SHORT, Checks.first(length, packet));
            }
        }
        unwrapTo(Checks.row(207, 225, 1, 2, 224, 3, 226, 4, 5, 6, 7, 1, 8), 15, 1, 2, 3, 4, 5, 6, 7, 8);
    }

    private static void anotherPiece() {
        for (int k = 0; k <= 4; k++) {
            int[] partial = with(Checks.row(193, 224 + k), Checks.climbing(1 << k));
            refuses(PacketDesk.SHORT, partial);
            unwrapTo(with(partial, Checks.row(0)), 1, Checks.climbing(1 << k));
            unwrapTo(with(partial, Checks.row(2, 7, 8)), 1, with(Checks.climbing(1 << k), Checks.row(7, 8)));
        }
        int[] b24 = Checks.climbing(24);
        unwrapTo(with(Checks.row(193, 224, 9, 192, 0), b24), 1, with(Checks.row(9), b24));
        refuses(PacketDesk.SHORT, 193, 224, 9, 224, 9);
        // As many pieces as the WORK can hold.
        int[] most = {193};
        for (int i = 0; i < 59; i++) {
            most = with(most, Checks.row(224, 7));
        }
        refuses(PacketDesk.SHORT, most);
        unwrapTo(with(most, Checks.row(0)), 1, Checks.same(7, 59));
    }

    private static void oldHead() {
        for (int tag = 1; tag <= 15; tag++) {
            wrapTo(Checks.row(5), tag, 6, 128 + 4 * tag, 1, 5);
            wrapTo(Checks.row(5), tag, 7, 129 + 4 * tag, 0, 1, 5);
            wrapTo(Checks.row(5), tag, 8, 131 + 4 * tag, 5);
        }
    }

    private static void oldOneByte() {
        for (int n = 0; n <= 118; n++) {
            int[] body = Checks.climbing(n);
            bothWays(body, 1, 6, with(Checks.row(132, n), body));
        }
        refuses(PacketDesk.SHORT, 132);
        refuses(PacketDesk.SHORT, 132, 1);
        for (int n = 119; n < 256; n++) {
            refuses(PacketDesk.SHORT, with(Checks.row(132, n), Checks.climbing(118)));
        }
    }

    private static void oldTwoBytes() {
        for (int n = 0; n <= 117; n++) {
            int[] body = Checks.climbing(n);
            bothWays(body, 1, 7, with(Checks.row(133, 0, n), body));
        }
        refuses(PacketDesk.SHORT, 133);
        refuses(PacketDesk.SHORT, 133, 0);
        refuses(PacketDesk.SHORT, 133, 0, 1);
        refuses(PacketDesk.SHORT, with(Checks.row(133, 0, 118), Checks.climbing(117)));
        refuses(PacketDesk.SHORT, with(Checks.row(133, 0, 255), Checks.climbing(117)));
        // 256 bytes and more are told by the first of the two, and are never there.
        for (int high = 1; high < 256; high++) {
            refuses(PacketDesk.SHORT, 133, high, 0);
            refuses(PacketDesk.SHORT, 133, high, 2, 9, 9);
        }
        refuses(PacketDesk.SHORT, 133, 255, 255);
    }

    private static void oldAllThatFollows() {
        for (int n = 0; n <= 119; n++) {
            int[] body = Checks.climbing(n);
            bothWays(body, 1, 8, with(Checks.row(135), body));
        }
    }

    private static void oldNotUsed() {
        for (int tag = 0; tag <= 15; tag++) {
            refuses(PacketDesk.BAD, 130 + 4 * tag);
            refuses(PacketDesk.BAD, 130 + 4 * tag, 0);
            refuses(PacketDesk.BAD, 130 + 4 * tag, 0, 0);
        }
    }

    private static void oldTag() {
        for (int head = 132; head < 192; head++) {
            int tag = (head & 0b00111100) / 4;
            if (head % 4 == 0) {
                unwrapTo(Checks.row(head, 1, 9), tag, 9);
            } else if (head % 4 == 1) {
                unwrapTo(Checks.row(head, 0, 1, 9), tag, 9);
            } else if (head % 4 == 3) {
                unwrapTo(Checks.row(head, 9), tag, 9);
            }
        }
    }

    private static void from192() {
        unwrapTo(Checks.row(191, 1, 9), 15, 1, 9);
        refuses(PacketDesk.BAD, 192, 1, 9);
        unwrapTo(Checks.row(193, 1, 9), 1, 9);
        unwrapTo(Checks.row(207, 1, 9), 15, 9);
        refuses(PacketDesk.BAD, 208, 1, 9);
        refuses(PacketDesk.BAD, 255, 1, 9);
    }

    private static void thereAndBack() {
        for (int sort = 0; sort <= 8; sort++) {
            for (int length = 0; length <= 120; length++) {
                int[] body = Checks.climbing(length);
                PacketDesk x = Checks.desk(body);
                int tag = 1 + length % 15;
                if (x.wrap(tag, sort) >= 0) {
                    CHECKS.due("unwrap of sort " + sort, x.unwrap(), tag);
                }
                CHECKS.holds("unwrap of sort " + sort, x, body);
            }
        }
    }

    private static void wrapOnePiece() {
        wrapTo(Checks.row(), 1, 0, 193, 0);
        wrapTo(Checks.row(10, 20, 30), 1, 0, 193, 3, 10, 20, 30);
        wrapTo(Checks.climbing(23), 2, 0, with(Checks.row(194, 23), Checks.climbing(23)));
        wrapTo(Checks.climbing(24), 15, 0, with(Checks.row(207, 192, 0), Checks.climbing(24)));
        wrapTo(Checks.climbing(117), 15, 0, with(Checks.row(207, 192, 93), Checks.climbing(117)));
    }

    private static void wrapPartial() {
        for (int sort = 1; sort <= 5; sort++) {
            int size = 1 << (sort - 1);
            int mark = 223 + sort;
            int[] piece = Checks.climbing(size);
            int[] less = Checks.climbing(size - 1);
            wrapTo(less, 6, sort, Checks.join(Checks.row(198, size - 1), less));
            wrapTo(piece, 6, sort, Checks.join(Checks.row(198, mark), piece, Checks.row(0)));
            int[] two = Checks.join(piece, piece);
            int[] twoLess = Checks.first(2 * size - 1, two);
            wrapTo(twoLess, 6, sort, Checks.join(Checks.row(198, mark), piece, Checks.row(size - 1), less));
            wrapTo(two, 6, sort,
                Checks.join(Checks.row(198, mark), piece, Checks.row(mark), piece, Checks.row(0)));
        }
        wrapTo(Checks.row(10, 20, 30), 2, 1, 194, 224, 10, 224, 20, 224, 30, 0);
        wrapTo(Checks.row(10, 20, 30), 3, 2, 195, 225, 10, 20, 1, 30);
    }

    private static void wrapRest() {
        for (int sort = 1; sort <= 5; sort++) {
            int size = 1 << (sort - 1);
            for (int length = 0; length <= 59; length++) {
                int[] body = Checks.climbing(length);
                int[] want = {195};
                int done = 0;
                for (; done + size <= length; done += size) {
                    int[] piece = Arrays.copyOfRange(body, done, done + size);
                    want = Checks.join(want, Checks.row(223 + sort), piece);
                }
                int[] rest = Arrays.copyOfRange(body, done, length);
                wrapTo(body, 3, sort, Checks.join(want, Checks.row(rest.length), rest));
            }
        }
    }

    private static void wrapOld() {
        int[] body = {10, 20, 30};
        wrapTo(body, 7, 6, 156, 3, 10, 20, 30);
        wrapTo(body, 8, 7, 161, 0, 3, 10, 20, 30);
        wrapTo(body, 9, 8, 167, 10, 20, 30);
        wrapTo(Checks.row(), 15, 6, 188, 0);
        wrapTo(Checks.row(), 15, 7, 189, 0, 0);
        wrapTo(Checks.row(), 15, 8, 191);
        int[] b117 = Checks.climbing(117);
        wrapTo(b117, 1, 6, with(Checks.row(132, 117), b117));
        wrapTo(b117, 1, 7, with(Checks.row(133, 0, 117), b117));
        wrapTo(b117, 1, 8, with(Checks.row(135), b117));
    }

    private static void wrapBadTag() {
        int[] tags = {0, 16, -1, 17, 63, 64, 257, 256 + 16, Integer.MIN_VALUE, Integer.MIN_VALUE + 1,
            Integer.MAX_VALUE};
        for (int tag : tags) {
            for (int sort = 0; sort <= 8; sort++) {
                PacketDesk x = Checks.desk(1, 2);
                CHECKS.due("wrap(" + tag + ", " + sort + ")", x.wrap(tag, sort), PacketDesk.BAD);
                CHECKS.holds("wrap(" + tag + ", " + sort + ")", x, 1, 2);
            }
        }
        for (int sort = 0; sort <= 8; sort++) {
            CHECKS.isTrue("wrap(1, " + sort + ")", Checks.desk(1, 2).wrap(1, sort) > 2);
            CHECKS.isTrue("wrap(15, " + sort + ")", Checks.desk(1, 2).wrap(15, sort) > 2);
        }
    }

    private static void wrapBadSort() {
        int[] sorts = {-1, 9, -2, 10, 256, 256 + 8, Integer.MIN_VALUE, Integer.MIN_VALUE + 1, Integer.MAX_VALUE};
        for (int sort : sorts) {
            for (int tag = 0; tag <= 16; tag++) {
                PacketDesk x = Checks.desk(1, 2);
                CHECKS.due("wrap(" + tag + ", " + sort + ")", x.wrap(tag, sort), PacketDesk.BAD);
                CHECKS.holds("wrap(" + tag + ", " + sort + ")", x, 1, 2);
            }
        }
    }

    private static void unwraps() {
        unwrapTo(Checks.row(193, 3, 10, 20, 30), 1, 10, 20, 30);
        unwrapTo(Checks.row(207, 0), 15);
        unwrapTo(Checks.row(156, 3, 10, 20, 30), 7, 10, 20, 30);
        unwrapTo(Checks.row(161, 0, 3, 10, 20, 30), 8, 10, 20, 30);
        unwrapTo(Checks.row(167, 10, 20, 30), 9, 10, 20, 30);
        // A packet inside a packet is taken off one at a time.
        unwrapTo(Checks.row(167, 193, 1, 5), 9, 193, 1, 5);
        // A size that no NEW piece may have before it is fine in an OLD packet.
        unwrapTo(with(Checks.row(132, 100), Checks.climbing(100)), 1, Checks.climbing(100));
    }

    private static void headBelow128() {
        for (int head = 0; head < 128; head++) {
            refuses(PacketDesk.BAD, head);
            refuses(PacketDesk.BAD, head, 0);
            refuses(PacketDesk.BAD, head, 1, 9);
        }
    }

    private static void headTag() {
        int[] tagZero = {128, 129, 130, 131, 192};
        for (int head : tagZero) {
            refuses(PacketDesk.BAD, head);
            refuses(PacketDesk.BAD, head, 0);
            refuses(PacketDesk.BAD, head, 0, 0);
        }
        for (int head = 208; head < 256; head++) {
            refuses(PacketDesk.BAD, head);
            refuses(PacketDesk.BAD, head, 0);
        }
        unwrapTo(Checks.row(132, 0), 1);
        unwrapTo(Checks.row(193, 0), 1);
        unwrapTo(Checks.row(188, 0), 15);
        unwrapTo(Checks.row(207, 0), 15);
    }

    private static void headNotUsed() {
        for (int head = 130; head < 192; head += 4) {
            refuses(PacketDesk.BAD, head);
            refuses(PacketDesk.BAD, head, 1, 9);
            refuses(PacketDesk.BAD, head, 0, 1, 9);
        }
        // The same two bits mean nothing in a NEW packet.
        unwrapTo(Checks.row(194, 1, 9), 2, 9);
        unwrapTo(Checks.row(206, 1, 9), 14, 9);
    }

    /** Whatever is cut off a packet that tells its length, what is left ends too early. */
    private static void endsTooEarly() {
        int[] lengths = {0, 1, 2, 15, 16, 17, 23, 24, 25, 59};
        for (int sort = 0; sort <= 7; sort++) {
            for (int length : lengths) {
                int[] whole = packet(Checks.climbing(length), 5, sort);
                for (int left = 1; left < whole.length; left++) {
                    refuses(PacketDesk.SHORT, Checks.first(left, whole));
                }
            }
        }
        endsAtTheLastPlace();
    }

    /** The last of 120 bytes tells that more would follow, but there is no place behind it. */
    private static void endsAtTheLastPlace() {
        int[] most = {193};
        int[] sizes = {16, 16, 16, 16, 16, 16, 8, 4, 1};
        for (int size : sizes) {
            int k = Integer.numberOfTrailingZeros(size);
            most = Checks.join(most, Checks.row(224 + k), Checks.climbing(size));
        }
        CHECKS.due("bytes before the last place", most.length, 119);
        int[] last = {1, 23, 192, 224, 228};
        for (int size : last) {
            refuses(PacketDesk.SHORT, with(most, Checks.row(size)));
        }
        refuses(PacketDesk.WRONG, with(most, Checks.row(24)));
        unwrapTo(with(most, Checks.row(0)), 1, Checks.join(Checks.climbing(16), Checks.climbing(16),
            Checks.climbing(16), Checks.climbing(16), Checks.climbing(16), Checks.climbing(16),
            Checks.climbing(8), Checks.climbing(4), Checks.climbing(1)));
    }

    private static void unwrapEmpty() {
        refuses(PacketDesk.SHORT);
        CHECKS.due("unwrap of a new object", new PacketDesk().unwrap(), PacketDesk.SHORT);
    }

    private static void noLength() {
        for (int size = 0; size < 256; size++) {
            boolean none = (size >= 24 && size <= 191) || (size >= 193 && size <= 223) || size >= 229;
            if (none) {
                refuses(PacketDesk.WRONG, 193, size);
                refuses(PacketDesk.WRONG, 193, 224, 55, size);
                refuses(PacketDesk.WRONG, with(Checks.row(207, size), Checks.climbing(118)));
            } else if (size > 0) {
                refuses(PacketDesk.SHORT, 193, size);
                refuses(PacketDesk.SHORT, 193, 224, 55, size);
            }
        }
    }

    private static void somethingFollows() {
        int[] lengths = {0, 1, 2, 15, 16, 17, 23, 24, 25, 58};
        int[] more = {0, 1, 193, 255};
        for (int sort = 0; sort <= 7; sort++) {
            for (int length : lengths) {
                int[] whole = packet(Checks.climbing(length), 5, sort);
                for (int next : more) {
                    refuses(PacketDesk.WRONG, with(whole, Checks.row(next)));
                }
                if (whole.length < 119) {
                    refuses(PacketDesk.WRONG, with(whole, Checks.row(193, 0)));
                }
            }
        }
    }

    private static void firstFault() {
        // A head that is none, before what is missing or wrong behind it.
        refuses(PacketDesk.BAD, 134);
        refuses(PacketDesk.BAD, 192);
        refuses(PacketDesk.BAD, 192, 24);
        refuses(PacketDesk.BAD, 127, 24, 0);
        // A length that is none, before the end that comes too early and before what follows.
        refuses(PacketDesk.WRONG, 193, 24);
        refuses(PacketDesk.WRONG, 193, 24, 224);
        refuses(PacketDesk.WRONG, 193, 224, 9, 100);
        refuses(PacketDesk.WRONG, 193, 224, 9, 229, 9);
        // A piece cut short, before a length that is none: its bytes are no lengths.
        refuses(PacketDesk.SHORT, 193, 226, 24, 24);
        refuses(PacketDesk.SHORT, 193, 224, 9, 228, 24, 24);
        refuses(PacketDesk.SHORT, 193, 3, 24, 24);
        // What follows the last piece, before anything that could be wrong in it.
        refuses(PacketDesk.WRONG, 193, 0, 228);
        refuses(PacketDesk.WRONG, 193, 224, 9, 0, 224);
    }
}
