/** Promise 12: count. */
public final class CountTest {
    public static void main(String[] args) {
        withoutATable();
        hashedTables();
        listedTables();
        aboveWays();
        theLeastAndTheGreatest();
        afterClear();
        Check.end();
    }

    private static void noOther(WayTables t) {
        int[] others = {-1, 4, 5, Integer.MIN_VALUE, Integer.MAX_VALUE};
        for (int what : others) {
            Check.same("count(" + what + ")", t.count(what), WayTables.NONE);
        }
    }

    private static void withoutATable() {
        WayTables t = new WayTables();
        for (int k = 0; k <= 4; k++) {
            Check.same("count(2)", t.count(2), k);
            Check.same("count(0)", t.count(0), WayTables.NONE);
            Check.same("count(1)", t.count(1), WayTables.NONE);
            Check.same("count(3)", t.count(3), WayTables.NONE);
            noOther(t);
            if (k < 4) {
                t.key(8, 0);
            }
        }
    }

    private static void hashedTables() {
        for (int n = 1; n <= 16; n *= 2) {
            for (int w = 1; w <= 4; w++) {
                for (int s = 0; s <= 8; s++) {
                    WayTables t = Tables.hashed(n, w, s);
                    Check.same("count(3) of " + n + ", " + w + ", " + s, t.count(3), n * w + s);
                    Check.same("count(0)", t.count(0), 0);
                    Check.same("count(1)", t.count(1), 0);
                    Check.same("count(2)", t.count(2), 1);
                }
            }
        }
        noOther(Tables.hashed(2, 2, 2));
    }

    private static void listedTables() {
        for (int n = 1; n <= 32; n++) {
            WayTables t = Tables.withKeys(8, 0, 2, 2);
            t.make(n, 3, 3);
            Check.same("count(3) of " + n, t.count(3), n);
            Check.same("count(2)", t.count(2), 3);
            for (int i = 0; i < n; i++) {
                t.set(0, 1, -1);
                t.set(1, i, -1);
                t.insert(0, 0, 0);
                Check.same("count(0)", t.count(0), i + 1);
                Check.same("count(1)", t.count(1), 0);
            }
            noOther(t);
        }
    }

    private static void theLeastAndTheGreatest() {
        int[][] shapes = {{1, 1, 0, 1}, {1, 1, 8, 9}, {1, 4, 0, 4}, {16, 1, 0, 16}, {16, 4, 0, 64}, {16, 4, 8, 72}};
        for (int[] shape : shapes) {
            WayTables t = Tables.hashed(shape[0], shape[1], shape[2]);
            Check.same("count(3)", t.count(3), shape[3]);
            for (int v = 0; v < 100; v++) {
                Tables.insert(t, v, -1, 0, 0, 0);
            }
            Check.same("count(0) when full", t.count(0), shape[3]);
            Check.same("count(1) when full", t.count(1), shape[2]);
            Check.same("count(2) when full", t.count(2), 1);
            Check.same("count(3) when full", t.count(3), shape[3]);
            noOther(t);
        }
    }

    private static void afterClear() {
        WayTables t = Tables.hashed(1, 1, 8);
        for (int v = 0; v < 9; v++) {
            Tables.insert(t, v, -1, 0, 0, 0);
        }
        t.clear();
        for (int what = -2; what <= 5; what++) {
            Check.same("count(" + what + ") after clear", t.count(what), what == 2 ? 0 : WayTables.NONE);
        }
        t.key(8, 2);
        for (int what = -2; what <= 5; what++) {
            Check.same("count(" + what + ") with a key", t.count(what), what == 2 ? 1 : WayTables.NONE);
        }
        t.make(7, 1, 8);
        int[] due = {WayTables.NONE, 0, 0, 1, 7, WayTables.NONE};
        for (int what = -1; what <= 4; what++) {
            Check.same("count(" + what + ") of the next table", t.count(what), due[what + 1]);
        }
    }

    private static void aboveWays() {
        WayTables t = Tables.hashed(4, 2, 8);
        int[] above = {0, 0, 0, 0, 0, 0, 0, 0, 1, 2, 3, 4, 5, 6, 7, 8, 8};
        for (int v = 0; v < above.length; v++) {
            Tables.insert(t, v, -1, 0, 0, 0);
            Check.same("count(1) after " + v, t.count(1), above[v]);
        }
        Check.same("count(0)", t.count(0), 16);
        WayTables u = Tables.hashed(4, 2, 8);
        for (int v = 0; v < 12; v++) {
            Tables.insert(u, 4 * v, -1, 0, 0, 0);
            Check.same("count(1) of one bucket after " + v, u.count(1), Math.max(0, Math.min(v - 1, 8)));
        }
        Check.same("count(0) of one bucket", u.count(0), 10);
    }
}
