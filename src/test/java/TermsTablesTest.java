/**
 * Terms: "If all are exact the table is HASHED: N BUCKETS (1, 2, 4, 8, 16), W ways (1 .. 4), a stash of
 * S (0 .. 8); else it has room for N, 1 .. 32."
 */
public final class TermsTablesTest {
    private static final int LEAST = Integer.MIN_VALUE;
    private static final int MOST = Integer.MAX_VALUE;

    public static void main(String[] args) {
        hashedIfAllAreExact();
        bucketsOfAHashedTable();
        waysOfAHashedTable();
        stashOfAHashedTable();
        onlyWrongTogether();
        roomOfAnotherTable();
        waysAndStashDoNotCountElse();
        Check.end();
    }

    private static void hashedIfAllAreExact() {
        for (int keys = 1; keys <= 4; keys++) {
            WayTables t = Tables.withKeys(8, new int[keys]);
            t.make(4, 2, 3);
            Check.same(keys + " exact keys: bucket()", t.bucket(), 0);
            Check.same(keys + " exact keys: count(3)", t.count(3), 11);
            for (int at = 0; at < keys; at++) {
                notHashedWith(1, keys, at);
                notHashedWith(2, keys, at);
            }
        }
    }

    private static void notHashedWith(int kind, int keys, int at) {
        int[] kinds = new int[keys];
        kinds[at] = kind;
        WayTables t = Tables.withKeys(8, kinds);
        t.make(4, 2, 3);
        String name = keys + " keys, kind " + kind + " at " + at;
        Check.same(name + ": bucket()", t.bucket(), WayTables.NONE);
        Check.same(name + ": count(3)", t.count(3), 4);
    }

    private static void makesOrNot(int kind, int n, int w, int s, boolean due) {
        String name = "kind " + kind + ": make(" + n + ", " + w + ", " + s + ")";
        WayTables t = Tables.withKeys(8, kind);
        if (due) {
            t.make(n, w, s);
            Check.same(name + ": count(3)", t.count(3), kind == 0 ? n * w + s : n);
        } else {
            Check.failsArgument(name, () -> t.make(n, w, s));
            Check.same(name + ": count(3)", t.count(3), WayTables.NONE);
        }
    }

    private static void bucketsOfAHashedTable() {
        for (int n = -40; n <= 300; n++) {
            boolean due = n == 1 || n == 2 || n == 4 || n == 8 || n == 16;
            makesOrNot(0, n, 1, 0, due);
            makesOrNot(0, n, 4, 8, due);
        }
        for (int n : new int[] {LEAST, LEAST + 1, 1 << 16, 1 << 30, MOST}) {
            makesOrNot(0, n, 1, 0, false);
        }
    }

    private static void waysOfAHashedTable() {
        for (int n = 1; n <= 16; n *= 2) {
            for (int w = -8; w <= 40; w++) {
                makesOrNot(0, n, w, 0, w >= 1 && w <= 4);
            }
            makesOrNot(0, n, LEAST, 0, false);
            makesOrNot(0, n, MOST, 0, false);
        }
    }

    private static void stashOfAHashedTable() {
        for (int n = 1; n <= 16; n *= 2) {
            for (int s = -8; s <= 40; s++) {
                makesOrNot(0, n, 1, s, s >= 0 && s <= 8);
            }
            makesOrNot(0, n, 1, LEAST, false);
            makesOrNot(0, n, 1, MOST, false);
        }
    }

    /** The sizes multiply: what runs over must not look like a size that may be. */
    private static void onlyWrongTogether() {
        makesOrNot(0, -1, -1, 0, false);
        makesOrNot(0, -2, -4, 8, false);
        makesOrNot(0, 1 << 16, 1 << 16, 4, false);
        makesOrNot(0, 0, 0, 0, false);
        makesOrNot(0, 16, 5, -8, false);
        makesOrNot(0, 32, 4, 9, false);
    }

    private static void roomOfAnotherTable() {
        for (int kind = 1; kind <= 2; kind++) {
            for (int n = -40; n <= 100; n++) {
                makesOrNot(kind, n, 1, 0, n >= 1 && n <= 32);
            }
            makesOrNot(kind, LEAST, 1, 0, false);
            makesOrNot(kind, MOST, 1, 0, false);
        }
    }

    private static void waysAndStashDoNotCountElse() {
        for (int kind = 1; kind <= 2; kind++) {
            for (int any : new int[] {LEAST, -1, 0, 5, 9, MOST}) {
                makesOrNot(kind, 1, any, 0, true);
                makesOrNot(kind, 32, 1, any, true);
                makesOrNot(kind, 33, any, any, false);
                roomIsStill(kind, any);
            }
        }
    }

    private static void roomIsStill(int kind, int any) {
        WayTables t = Tables.withKeys(8, kind);
        t.make(3, any, any);
        for (int v = 0; v < 5; v++) {
            Check.same("kind " + kind + ", w and s " + any + ", entry " + v,
                Tables.insert(t, v, -1, 0, 0, 0) ? 1 : 0, v < 3 ? 1 : 0);
        }
        Check.same("count(1)", t.count(1), 0);
    }
}
