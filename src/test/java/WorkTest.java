/** Promises 1 to 5: a new object, add, at, set, clear. */
public final class WorkTest {
    private static final Checks CHECKS = new Checks();

    public static void main(String[] args) {
        newObject();
        add();
        at();
        set();
        clear();
        twoObjects();
        CHECKS.finish();
    }

    private static void newObject() {
        PacketDesk x = new PacketDesk();
        CHECKS.holds("new", x);
        CHECKS.due("new at(0)", x.at(0), -1);
        CHECKS.due("new clear()", x.clear(), 0);
        for (int k = -1; k <= 3; k++) {
            CHECKS.due("new raise(" + k + ")", x.raise(k, 0, false), PacketDesk.BAD);
            CHECKS.due("new sign(" + k + ")", x.sign(k), PacketDesk.BAD);
            CHECKS.due("new verify(" + k + ")", x.verify(k), PacketDesk.BAD);
        }
    }

    private static void add() {
        PacketDesk x = new PacketDesk();
        CHECKS.due("add(0)", x.add(0), 1);
        CHECKS.due("add(255)", x.add(255), 2);
        CHECKS.due("add(256)", x.add(256), PacketDesk.BAD);
        CHECKS.due("add(-1)", x.add(-1), PacketDesk.BAD);
        CHECKS.due("add(least)", x.add(Integer.MIN_VALUE), PacketDesk.BAD);
        CHECKS.due("add(greatest)", x.add(Integer.MAX_VALUE), PacketDesk.BAD);
        CHECKS.holds("add", x, 0, 255);
        for (int i = 2; i < 120; i++) {
            CHECKS.due("add " + i, x.add(i), i + 1);
        }
        CHECKS.due("add to 120", x.add(9), PacketDesk.FULL);
        CHECKS.due("at(119)", x.at(119), 119);
        CHECKS.due("at(120)", x.at(120), -1);
    }

    private static void at() {
        PacketDesk x = Checks.desk(7, 0, 255);
        CHECKS.due("at(0)", x.at(0), 7);
        CHECKS.due("at(1)", x.at(1), 0);
        CHECKS.due("at(2)", x.at(2), 255);
        CHECKS.due("at(3)", x.at(3), -1);
        CHECKS.due("at(-1)", x.at(-1), -1);
        CHECKS.due("at(120)", x.at(120), -1);
        CHECKS.due("at(least)", x.at(Integer.MIN_VALUE), -1);
        CHECKS.due("at(greatest)", x.at(Integer.MAX_VALUE), -1);
    }

    private static void set() {
        PacketDesk x = Checks.desk(7, 0, 255);
        CHECKS.due("set(0, 255)", x.set(0, 255), 7);
        CHECKS.due("set(0, 0)", x.set(0, 0), 255);
        CHECKS.due("set(2, 8)", x.set(2, 8), 255);
        CHECKS.due("set(3, 8)", x.set(3, 8), PacketDesk.BAD);
        CHECKS.due("set(-1, 8)", x.set(-1, 8), PacketDesk.BAD);
        CHECKS.due("set(120, 8)", x.set(120, 8), PacketDesk.BAD);
        CHECKS.due("set(1, 256)", x.set(1, 256), PacketDesk.BAD);
        CHECKS.due("set(1, -1)", x.set(1, -1), PacketDesk.BAD);
        CHECKS.due("set(greatest, least)", x.set(Integer.MAX_VALUE, Integer.MIN_VALUE), PacketDesk.BAD);
        CHECKS.holds("set", x, 0, 0, 8);
    }

    private static void clear() {
        PacketDesk x = Checks.desk(Checks.climbing(120));
        CHECKS.due("clear of 120", x.clear(), 120);
        CHECKS.holds("clear", x);
        CHECKS.due("clear again", x.clear(), 0);
        CHECKS.due("set after clear", x.set(0, 1), PacketDesk.BAD);
        CHECKS.due("add after clear", x.add(4), 1);
        x.key(1, 257, 263, 5);
        x.clear();
        CHECKS.due("keys stay", x.raise(1, 1, false), 1);
    }

    private static void twoObjects() {
        PacketDesk x = Checks.desk(1, 2);
        PacketDesk y = Checks.desk(3);
        x.key(0, 257, 263, 5);
        CHECKS.holds("the first", x, 1, 2);
        CHECKS.holds("the second", y, 3);
        CHECKS.due("the second's key", y.sign(0), PacketDesk.BAD);
    }
}
