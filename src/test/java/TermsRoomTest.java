/**
 * Terms: "there is room as long as what is above W in all buckets is in sum not above S"; and of a table
 * that is not HASHED: "it has room for N".
 */
public final class TermsRoomTest {
    public static void main(String[] args) {
        for (int w = 1; w <= 4; w++) {
            for (int s = 0; s <= 8; s++) {
                for (int n = 1; n <= 16; n *= 2) {
                    oneBucketAlone(n, w, s);
                    evenly(n, w, s);
                }
                theStashIsForAll(w, s);
            }
        }
        goneFromAFullBucket();
        goneFromABucketThatIsNotAbove();
        aFullTableRefusesAndStays();
        for (int n = 1; n <= 32; n++) {
            anotherTable(1, n);
            anotherTable(2, n);
        }
        Check.end();
    }

    /** A value of 17 bits whose bucket is b: shifted down by 7, the turn still lies above the bits of b. */
    private static long valueIn(int b, int turn) {
        return b | turn << 12 & 0x1F000;
    }

    private static WayTables hashed(int n, int w, int s) {
        WayTables t = Tables.withKeys(17, 0);
        t.make(n, w, s);
        return t;
    }

    private static boolean insertIn(WayTables t, int b, int turn) {
        boolean came = Tables.insert(t, valueIn(b, turn), -1, 0, 1, turn);
        Check.same("the bucket", t.bucket(), b);
        return came;
    }

    private static boolean removeFrom(WayTables t, int b, int turn) {
        t.set(0, valueIn(b, turn), -1);
        return t.remove();
    }

    private static void oneBucketAlone(int n, int w, int s) {
        String name = n + ", " + w + ", " + s + ": ";
        WayTables t = hashed(n, w, s);
        for (int turn = 0; turn < w + s; turn++) {
            Check.yes(name + "entry " + turn + " of the last bucket", insertIn(t, n - 1, turn));
            Check.same(name + "count(1)", t.count(1), Math.max(0, turn + 1 - w));
        }
        Check.no(name + "one more than W and S", insertIn(t, n - 1, w + s));
        Check.same(name + "count(0)", t.count(0), w + s);
        Check.same(name + "count(1)", t.count(1), s);
        if (n > 1) {
            Check.yes(name + "the ways of the first bucket are free", insertIn(t, 0, 0));
        }
    }

    private static void evenly(int n, int w, int s) {
        String name = n + ", " + w + ", " + s + ": ";
        WayTables t = hashed(n, w, s);
        for (int b = 0; b < n; b++) {
            for (int turn = 0; turn < w; turn++) {
                Check.yes(name + "way " + turn + " of bucket " + b, insertIn(t, b, turn));
            }
        }
        Check.same(name + "count(1) with all ways full", t.count(1), 0);
        for (int more = 0; more < s; more++) {
            Check.yes(name + "stashed " + more, insertIn(t, more % n, w + more / n));
        }
        Check.same(name + "count(0) is the most", t.count(0), t.count(3));
        Check.same(name + "count(1) is S", t.count(1), s);
        for (int b = 0; b < n; b++) {
            Check.no(name + "no room in bucket " + b, insertIn(t, b, 20));
        }
        Check.same(name + "count(0) stays", t.count(0), n * w + s);
    }

    private static void theStashIsForAll(int w, int s) {
        WayTables t = hashed(2, w, s);
        for (int b = 0; b < 2; b++) {
            for (int turn = 0; turn < w; turn++) {
                insertIn(t, b, turn);
            }
        }
        int came = 0;
        for (int turn = w; turn < w + s; turn++) {
            came += insertIn(t, 0, turn) ? 1 : 0;
            came += insertIn(t, 1, turn) ? 1 : 0;
        }
        Check.same("stashed of two buckets, " + w + ", " + s, came, s);
        Check.same("count(1)", t.count(1), s);
    }

    private static void goneFromAFullBucket() {
        WayTables t = hashed(4, 2, 1);
        for (int turn = 0; turn < 3; turn++) {
            insertIn(t, 3, turn);
        }
        insertIn(t, 0, 0);
        insertIn(t, 0, 1);
        Check.no("the stash is full", insertIn(t, 0, 2));
        Check.yes("one goes", removeFrom(t, 3, 0));
        Check.same("none is above", t.count(1), 0);
        Check.yes("the stash is free for another bucket", insertIn(t, 0, 2));
        Check.no("and full again", insertIn(t, 3, 0));
        Check.yes("one goes from the other bucket", removeFrom(t, 0, 2));
        Check.yes("and it is free again", insertIn(t, 3, 0));
    }

    private static void goneFromABucketThatIsNotAbove() {
        WayTables t = hashed(2, 1, 1);
        insertIn(t, 0, 0);
        insertIn(t, 0, 1);
        insertIn(t, 1, 0);
        Check.yes("one goes from the bucket that is not above", removeFrom(t, 1, 0));
        Check.same("one is above still", t.count(1), 1);
        Check.no("no room in the other bucket", insertIn(t, 0, 2));
        Check.yes("room in its own", insertIn(t, 1, 1));
        Check.no("for one", insertIn(t, 1, 2));
    }

    private static void aFullTableRefusesAndStays() {
        WayTables t = hashed(1, 1, 0);
        Check.yes("the only one", insertIn(t, 0, 0));
        for (int turn = 1; turn < 31; turn++) {
            Check.no("one more", insertIn(t, 0, turn));
            Check.same("match of one more", t.match(), WayTables.NONE);
        }
        Check.same("count(0)", t.count(0), 1);
        Check.yes("the only one goes", removeFrom(t, 0, 0));
        Check.yes("another comes", insertIn(t, 0, 30));
    }

    private static void anotherTable(int kind, int n) {
        WayTables t = Tables.withKeys(17, kind);
        t.make(n, 1, 0);
        for (int v = 0; v < n; v++) {
            Check.yes("entry " + v + " of " + n, Tables.insert(t, v, -1, 0, 1, v));
        }
        Check.no("one more than " + n, Tables.insert(t, n, -1, 0, 1, n));
        Check.same("count(0)", t.count(0), n);
        Check.same("count(1)", t.count(1), 0);
        Check.same("match of the last", Tables.match(t, n - 1), 1);
        Check.same("match of the one more", Tables.match(t, n), WayTables.NONE);
        t.set(0, 0, -1);
        Check.yes("the first goes", t.remove());
        Check.yes("there is room for one", Tables.insert(t, n, -1, 0, 1, n));
        Check.no("and not for two", Tables.insert(t, n + 1, -1, 0, 1, n));
    }
}
