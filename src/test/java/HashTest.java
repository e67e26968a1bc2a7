/** Promises 10 and 11: hash and stretch. The numbers due were reckoned apart from the program. */
public final class HashTest {
    private static final Checks CHECKS = new Checks();

    public static void main(String[] args) {
        hashes();
        stretches();
        outside();
        CHECKS.finish();
    }

    private static void hashIs(int want, int... bytes) {
        PacketDesk x = Checks.desk(bytes);
        CHECKS.due("hash", x.hash(), want);
        CHECKS.holds("hash", x, bytes);
    }

    private static void hashes() {
        hashIs(447841614);
        hashIs(1818589120, 0);
        hashIs(-30411120, 1, 2, 3);
        hashIs(1823648229, Checks.codes("packet"));
        hashIs(2103561840, Checks.same(255, 120));
    }

    private static void stretchIs(int want, int salt, int count, int... bytes) {
        PacketDesk x = Checks.desk(bytes);
        CHECKS.due("stretch(" + salt + ", " + count + ")", x.stretch(salt, count), want);
        CHECKS.holds("stretch", x, bytes);
    }

    private static void stretches() {
        stretchIs(447841614, 0, 0, 1, 2);
        stretchIs(-578842336, 0x01020304, 1, 9);
        stretchIs(1722362992, 0x01020304, 4, 9);
        stretchIs(-1187536291, 0x01020304, 5, 9);
        stretchIs(2000559741, 0x01020304, 6, 9);
        stretchIs(1038721286, -2, 2000, 9, 8, 7);
        stretchIs(-1105359831, 5, 2000);
        stretchIs(-1161064505, 5, 2000, Checks.join(Checks.same(1, 116), Checks.same(2, 4)));
        for (int count = 0; count <= 40; count++) {
            int[] endless = new int[count];
            int[] unit = {255, 0, 128, 1, 50, 60, 70};
            for (int i = 0; i < count; i++) {
                endless[i] = unit[i % unit.length];
            }
            stretchIs(Checks.desk(endless).hash(), 0xFF008001, count, 50, 60, 70);
        }
    }

    private static void outside() {
        int[] counts = {-1, 2001, Integer.MIN_VALUE, Integer.MAX_VALUE};
        for (int count : counts) {
            stretchIs(0, 77, count, 1, 2, 3);
        }
    }
}
