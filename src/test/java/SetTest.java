/** Promise 5: set. */
public final class SetTest {
    public static void main(String[] args) {
        wrongIndexes();
        zeroAtFirst();
        theyStay();
        everyKeyHasItsOwn();
        Check.end();
    }

    private static void wrongIndexes() {
        WayTables t = new WayTables();
        int[] wrong = {-1, 4, Integer.MIN_VALUE, Integer.MAX_VALUE};
        for (int i : wrong) {
            Check.failsIndex("set(" + i + ", ..)", () -> t.set(i, 1, -1));
        }
        for (int i = 0; i < 4; i++) {
            t.set(i, 1, -1);
        }
        WayTables made = Tables.hashed(2, 1, 0);
        Check.failsIndex("set(4, ..) in a made table", () -> made.set(4, 1, -1));
        made.set(3, 5, 5);
        Check.yes("a key that is not there does not count", Tables.insert(made, 1, -1, 0, 1, 1));
    }

    private static void zeroAtFirst() {
        WayTables t = Tables.prefixed(2);
        Check.yes("insert without set", t.insert(0, 1, 10));
        Check.same("it has no ones", Tables.match(t, 255), 1);
        WayTables e = Tables.hashed(2, 1, 0);
        Check.no("insert without an exact mask", e.insert(0, 1, 10));
        WayTables m = Tables.masked(2);
        Tables.insert(m, 0, -1, 0, 3, 30);
        for (int i = 1; i < 4; i++) {
            m.set(i, 5, 5);
        }
        Check.same("the value 0 is there to be asked for", m.match(), 3);
        WayTables b = Tables.hashed(16, 1, 0);
        Check.same("the bucket of the value 0", b.bucket(), 0);
    }

    private static void theyStay() {
        WayTables t = new WayTables();
        t.set(0, 0x1FFL, -1L);
        t.key(8, 0);
        t.make(1, 2, 0);
        Check.yes("set before key and make", t.insert(0, 1, 10));
        Check.same("match of it", t.match(), 1);
        Check.no("it is there", t.insert(0, 2, 20));
        Check.yes("change of it", t.change(2, 20));
        Check.same("match after change", t.match(), 2);
        Check.yes("remove of it", t.remove());
        Check.same("match after remove", t.match(), WayTables.NONE);
        Check.yes("insert after remove", t.insert(0, 3, 30));
        Check.same("it is cut to the key", Tables.match(t, 0xFF), 3);
    }

    private static void everyKeyHasItsOwn() {
        WayTables t = Tables.withKeys(8, 0, 0, 0, 0);
        t.make(1, 4, 8);
        for (int i = 0; i < 4; i++) {
            t.set(i, i + 1, -1);
        }
        t.insert(0, 6, 60);
        for (int i = 0; i < 4; i++) {
            t.set(i, 0, -1);
            Check.same("match with another value of key " + i, t.match(), WayTables.NONE);
            t.set(i, i + 1, 0);
            Check.same("match with the value of key " + i, t.match(), 6);
        }
    }
}
