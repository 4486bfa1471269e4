/** Promise 12: count. */
public final class CountTest {
    public static void main(String[] args) {
        withoutATable();
        hashedTables();
        listedTables();
        aboveWays();
        Check.end();
    }

    private static void noOther(WayTables t) {
        int[] others = {-1, 4, 5, Integer.MIN_VALUE, Integer.MAX_VALUE};
        for (int what : others) {
            Check.same("count(" + what + ")", t.count(what), WayTables.NONE);
        }
    }

    private static void withoutATable() {
        WayTables t = new WayTables();
        for (int k = 0; k <= 4; k++) {
            Check.same("count(2)", t.count(2), k);
            Check.same("count(0)", t.count(0), WayTables.NONE);
            Check.same("count(1)", t.count(1), WayTables.NONE);
            Check.same("count(3)", t.count(3), WayTables.NONE);
            noOther(t);
            if (k < 4) {
                t.key(8, 0);
            }
        }
    }

    private static void hashedTables() {
        for (int n = 1; n <= 16; n *= 2) {
            for (int w = 1; w <= 4; w++) {
                for (int s = 0; s <= 8; s++) {
                    WayTables t = Tables.hashed(n, w, s);
                    Check.same("count(3) of " + n + ", " + w + ", " + s, t.count(3), n * w + s);
                    Check.same("count(0)", t.count(0), 0);
                    Check.same("count(1)", t.count(1), 0);
                    Check.same("count(2)", t.count(2), 1);
                }
            }
        }
        noOther(Tables.hashed(2, 2, 2));
    }

    private static void listedTables() {
        for (int n = 1; n <= 32; n++) {
            WayTables t = Tables.withKeys(8, 0, 2, 2);
            t.make(n, 3, 3);
            Check.same("count(3) of " + n, t.count(3), n);
            Check.same("count(2)", t.count(2), 3);
            for (int i = 0; i < n; i++) {
                t.set(0, 1, -1);
                t.set(1, i, -1);
                t.insert(0, 0, 0);
                Check.same("count(0)", t.count(0), i + 1);
                Check.same("count(1)", t.count(1), 0);
            }
            noOther(t);
        }
    }

    private static void aboveWays() {
        WayTables t = Tables.hashed(4, 2, 8);
        int[] above = {0, 0, 0, 0, 0, 0, 0, 0, 1, 2, 3, 4, 5, 6, 7, 8, 8};
        for (int v = 0; v < above.length; v++) {
            Tables.insert(t, v, -1, 0, 0, 0);
            Check.same("count(1) after " + v, t.count(1), above[v]);
        }
        Check.same("count(0)", t.count(0), 16);
        WayTables u = Tables.hashed(4, 2, 8);
        for (int v = 0; v < 12; v++) {
            Tables.insert(u, 4 * v, -1, 0, 0, 0);
            Check.same("count(1) of one bucket after " + v, u.count(1), Math.max(0, Math.min(v - 1, 8)));
        }
        Check.same("count(0) of one bucket", u.count(0), 10);
    }
}
