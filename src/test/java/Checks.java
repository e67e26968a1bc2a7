import java.util.Arrays;

/** Counts and prints the answers that are not due; shared by the tests of the project. */
final class Checks implements Telling {
    private int wrong = 0;
    private int done = 0;
    private String part = "";

    @Override
    public void part(String heading) {
        part = heading;
    }

    @Override
    public void says(String words, Runnable test) {
        int wrongBefore = wrong;
        int doneBefore = done;
        test.run();
        isTrue("some answer is looked at", done > doneBefore);
        if (wrong > wrongBefore) {
            System.out.println("  so this does not hold (" + part + "): " + words);
        }
    }

    void due(String what, long got, long want) {
        done++;
        if (got != want) {
            wrong++;
            System.out.println(what + " answered " + got + ", due is " + want);
        }
    }

    void holds(String what, PacketDesk desk, int... want) {
        done++;
        int[] got = bytesOf(desk);
        if (!Arrays.equals(got, want)) {
            wrong++;
            System.out.println(what + " left " + Arrays.toString(got)
                + ", due is " + Arrays.toString(want));
        }
    }

    void isTrue(String what, boolean holds) {
        due(what, holds ? 1 : 0, 1);
    }

    void finish() {
        System.out.println(done + " answers looked at, " + wrong + " not as due");
        if (wrong != 0) {
            System.exit(1);
        }
    }

    static PacketDesk desk(int... bytes) {
        PacketDesk desk = new PacketDesk();
        fill(desk, bytes);
        return desk;
    }

    /** As desk, but other bytes stood in all the places before. */
    static PacketDesk usedDesk(int before, int... bytes) {
        PacketDesk desk = desk(same(before, 120));
        desk.clear();
        fill(desk, bytes);
        return desk;
    }

    static void fill(PacketDesk desk, int... bytes) {
        for (int b : bytes) {
            desk.add(b);
        }
    }

    static int[] bytesOf(PacketDesk desk) {
        int[] bytes = new int[121];
        int length = 0;
        for (int b = desk.at(0); b >= 0 && length < bytes.length; b = desk.at(length)) {
            bytes[length] = b;
            length++;
        }
        return Arrays.copyOf(bytes, length);
    }

    /** count bytes of which no two neighbours are the same. */
    static int[] climbing(int count) {
        int[] bytes = new int[count];
        for (int i = 0; i < count; i++) {
            bytes[i] = (i * 7 + 3) & 255;
        }
        return bytes;
    }

    static int[] same(int b, int count) {
        int[] bytes = new int[count];
        Arrays.fill(bytes, b);
        return bytes;
    }

    static int[] join(int[]... rows) {
        int[] all = {};
        for (int[] row : rows) {
            int[] longer = Arrays.copyOf(all, all.length + row.length);
            System.arraycopy(row, 0, longer, all.length, row.length);
            all = longer;
        }
        return all;
    }

    static int[] first(int count, int[] bytes) {
        return Arrays.copyOf(bytes, count);
    }

    static int[] row(int... bytes) {
        return bytes;
    }

    static int[] codes(String text) {
        return text.chars().toArray();
    }
}
