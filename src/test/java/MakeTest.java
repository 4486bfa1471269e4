/** Promise 4: make. */
public final class MakeTest {
    public static void main(String[] args) {
        stateComesFirst();
        hashedShapes();
        listedShapes();
        aWrongMakeLeavesNoTable();
        stateBeforeEveryArgument();
        onceUntilClear();
        Check.end();
    }

    private static void stateComesFirst() {
        WayTables none = new WayTables();
        Check.failsState("make without a key", () -> none.make(4, 1, 1));
        Check.failsState("wrong make without a key", () -> none.make(-1, -1, -1));
        WayTables made = Tables.hashed(4, 2, 1);
        Check.failsState("make of a made table", () -> made.make(4, 2, 1));
        Check.failsState("wrong make of a made table", () -> made.make(3, 9, 9));
        Check.same("count(3) of the made table", made.count(3), 9);
    }

    private static void stateBeforeEveryArgument() {
        int[][] wrong = {{0, 1, 0}, {17, 1, 0}, {33, 1, 0}, {1, 0, 0}, {1, 5, 0}, {1, 1, -1}, {1, 1, 9}, {1, 1, 0}};
        for (int[] row : wrong) {
            WayTables none = new WayTables();
            Check.failsState("no key before the arguments", () -> none.make(row[0], row[1], row[2]));
            for (int kind = 0; kind <= 2; kind++) {
                WayTables made = Tables.withKeys(8, kind);
                made.make(2, 1, 1);
                Check.failsState("made before the arguments", () -> made.make(row[0], row[1], row[2]));
                Check.same("the table stays", made.count(3), kind == 0 ? 3 : 2);
            }
        }
    }

    private static void onceUntilClear() {
        WayTables t = Tables.hashed(1, 1, 0);
        Check.failsState("a second make", () -> t.make(1, 1, 0));
        t.clear();
        Check.failsState("make after clear, without a key", () -> t.make(1, 1, 0));
        t.key(8, 0);
        t.make(16, 4, 8);
        Check.same("make after clear and key", t.count(3), 72);
    }

    private static boolean makes(int kind, int n, int w, int s) {
        WayTables t = Tables.withKeys(8, kind);
        try {
            t.make(n, w, s);
        } catch (IllegalArgumentException e) {
            return false;
        }
        return true;
    }

    private static void hashedShapes() {
        for (int n = -20; n <= 70; n++) {
            boolean due = n == 1 || n == 2 || n == 4 || n == 8 || n == 16;
            Check.same("hashed n = " + n, makes(0, n, 1, 0) ? 1 : 0, due ? 1 : 0);
        }
        for (int w = -3; w <= 9; w++) {
            Check.same("hashed w = " + w, makes(0, 1, w, 0) ? 1 : 0, w >= 1 && w <= 4 ? 1 : 0);
        }
        for (int s = -3; s <= 12; s++) {
            Check.same("hashed s = " + s, makes(0, 1, 1, s) ? 1 : 0, s >= 0 && s <= 8 ? 1 : 0);
        }
        Check.no("least n", makes(0, Integer.MIN_VALUE, 1, 0));
        Check.no("greatest power of two", makes(0, 1 << 30, 1, 0));
        Check.no("greatest w", makes(0, 1, Integer.MAX_VALUE, 0));
        Check.no("least s", makes(0, 1, 1, Integer.MIN_VALUE));
    }

    private static void listedShapes() {
        for (int kind = 1; kind <= 2; kind++) {
            for (int n = -5; n <= 40; n++) {
                Check.same("kind " + kind + ", n = " + n, makes(kind, n, 0, 0) ? 1 : 0, n >= 1 && n <= 32 ? 1 : 0);
            }
            Check.yes("w and s do not count", makes(kind, 3, Integer.MIN_VALUE, Integer.MAX_VALUE));
        }
        WayTables mixed = Tables.withKeys(8, 0, 1);
        mixed.make(3, -1, 99);
        Check.same("exact with prefix is not hashed", mixed.count(3), 3);
        Check.same("its bucket()", mixed.bucket(), WayTables.NONE);
    }

    private static void aWrongMakeLeavesNoTable() {
        WayTables t = Tables.withKeys(8, 0);
        Check.failsArgument("make(4, 1, 9)", () -> t.make(4, 1, 9));
        Check.same("count(3) after a wrong make", t.count(3), WayTables.NONE);
        Check.same("bucket() after a wrong make", t.bucket(), WayTables.NONE);
        Check.failsState("match after a wrong make", () -> t.match());
        Check.same("a key after a wrong make", t.key(8, 1), 1);
        t.make(32, 9, 9);
        Check.same("count(3)", t.count(3), 32);
        Check.same("count(0)", t.count(0), 0);
    }
}
