/** Promise 5: set. */
public final class SetTest {
    public static void main(String[] args) {
        wrongIndexes();
        zeroAtFirst();
        theyStay();
        everyKeyHasItsOwn();
        zeroAtFirstForEveryKey();
        theyStayOverAllCalls();
        theLatestCounts();
        Check.end();
    }

    private static void wrongIndexes() {
        WayTables t = new WayTables();
        int[] wrong = {-1, 4, Integer.MIN_VALUE, Integer.MAX_VALUE};
        for (int i : wrong) {
            Check.failsIndex("set(" + i + ", ..)", () -> t.set(i, 1, -1));
        }
        for (int i = 0; i < 4; i++) {
            t.set(i, 1, -1);
        }
        WayTables made = Tables.hashed(2, 1, 0);
        Check.failsIndex("set(4, ..) in a made table", () -> made.set(4, 1, -1));
        made.set(3, 5, 5);
        Check.yes("a key that is not there does not count", Tables.insert(made, 1, -1, 0, 1, 1));
    }

    private static void zeroAtFirst() {
        WayTables t = Tables.prefixed(2);
        Check.yes("insert without set", t.insert(0, 1, 10));
        Check.same("it has no ones", Tables.match(t, 255), 1);
        WayTables e = Tables.hashed(2, 1, 0);
        Check.no("insert without an exact mask", e.insert(0, 1, 10));
        WayTables m = Tables.masked(2);
        Tables.insert(m, 0, -1, 0, 3, 30);
        for (int i = 1; i < 4; i++) {
            m.set(i, 5, 5);
        }
        Check.same("the value 0 is there to be asked for", m.match(), 3);
        WayTables b = Tables.hashed(16, 1, 0);
        Check.same("the bucket of the value 0", b.bucket(), 0);
    }

    private static void theyStay() {
        WayTables t = new WayTables();
        t.set(0, 0x1FFL, -1L);
        t.key(8, 0);
        t.make(1, 2, 0);
        Check.yes("set before key and make", t.insert(0, 1, 10));
        Check.same("match of it", t.match(), 1);
        Check.no("it is there", t.insert(0, 2, 20));
        Check.yes("change of it", t.change(2, 20));
        Check.same("match after change", t.match(), 2);
        Check.yes("remove of it", t.remove());
        Check.same("match after remove", t.match(), WayTables.NONE);
        Check.yes("insert after remove", t.insert(0, 3, 30));
        Check.same("it is cut to the key", Tables.match(t, 0xFF), 3);
    }

    /** As long as key i is not set, the object is like one in which it is set to 0. */
    private static void zeroAtFirstForEveryKey() {
        for (int kind = 0; kind <= 2; kind++) {
            for (int i = 0; i < 4; i++) {
                int[] kinds = new int[4];
                kinds[i] = kind;
                WayTables[] both = {Tables.withKeys(64, kinds), Tables.withKeys(64, kinds)};
                both[1].set(i, 0, 0);
                for (WayTables t : both) {
                    t.make(16, 4, 8);
                    for (int other = 0; other < 4; other++) {
                        if (other != i) {
                            t.set(other, 3 + other, -1);
                        }
                    }
                }
                Twins.alike("key " + i + " of kind " + kind + " not set", both[0], both[1]);
                WayTables seven = Tables.withKeys(64, kinds);
                seven.set(i, 7, 0);
                seven.make(16, 4, 8);
                WayTables bare = Tables.withKeys(64, kinds);
                bare.make(16, 4, 8);
                Check.same("bucket with key " + i + " not set", bare.bucket(), kind == 0 ? 0 : WayTables.NONE);
                Check.no("7 is not like 0 in a hashed table", kind == 0 && seven.bucket() == bare.bucket());
            }
        }
    }

    private static void theyStayOverAllCalls() {
        WayTables t = new WayTables();
        t.set(0, 5, -1);
        t.set(1, 6, -1);
        Check.failsArgument("a wrong key", () -> t.key(0, 0));
        t.key(8, 0);
        t.key(8, 0);
        Check.failsArgument("a wrong make", () -> t.make(3, 1, 1));
        t.make(16, 4, 8);
        int bucket = t.bucket();
        Check.yes("insert", t.insert(0, 1, 10));
        Check.no("insert again", t.insert(0, 1, 10));
        Check.failsIndex("a wrong set", () -> t.set(4, 9, 9));
        Check.failsIndex("a wrong set below", () -> t.set(-1, 9, 9));
        Check.failsState("a late key", () -> t.key(8, 0));
        t.count(0);
        t.datum();
        Check.same("match", t.match(), 1);
        Check.yes("change", t.change(2, 20));
        Check.no("a wrong change", t.change(8, 20));
        Check.same("match after change", t.match(), 2);
        Check.same("bucket", t.bucket(), bucket);
        Check.yes("remove", t.remove());
        Check.no("remove again", t.remove());
        Check.yes("insert after remove", t.insert(0, 3, 30));
        Check.same("match after it", t.match(), 3);
    }

    private static void theLatestCounts() {
        WayTables t = Tables.hashed(16, 1, 0);
        t.set(0, 5, -1);
        t.set(0, 6, -1);
        Check.same("the bucket of the latest", t.bucket(), 6);
        Check.yes("insert of the latest", t.insert(0, 1, 10));
        Check.same("the earlier is none", Tables.match(t, 5), WayTables.NONE);
        Check.no("the latest mask counts", t.insert(0, 1, 10));
        Check.same("the latest is one", Tables.match(t, 6), 1);
    }

    private static void everyKeyHasItsOwn() {
        WayTables t = Tables.withKeys(8, 0, 0, 0, 0);
        t.make(1, 4, 8);
        for (int i = 0; i < 4; i++) {
            t.set(i, i + 1, -1);
        }
        t.insert(0, 6, 60);
        for (int i = 0; i < 4; i++) {
            t.set(i, 0, -1);
            Check.same("match with another value of key " + i, t.match(), WayTables.NONE);
            t.set(i, i + 1, 0);
            Check.same("match with the value of key " + i, t.match(), 6);
        }
    }
}
