/** Promise 2: all is as at first. */
public final class ClearTest {
    public static void main(String[] args) {
        WayTables t = Tables.hashed(1, 1, 1);
        for (int i = 0; i < 4; i++) {
            t.set(i, 7, -1);
        }
        t.insert(0, 3, 30);
        t.match();
        Check.same("datum() before", t.datum(), 30);
        t.clear();
        isAsAtFirst(t);
        valuesAndMasksAreGone(t);
        bucketsAreEmptyAgain();
        onANewObject();
        Check.end();
    }

    private static void isAsAtFirst(WayTables t) {
        Check.same("datum()", t.datum(), 0);
        Check.same("bucket()", t.bucket(), WayTables.NONE);
        Check.same("count(0)", t.count(0), WayTables.NONE);
        Check.same("count(1)", t.count(1), WayTables.NONE);
        Check.same("count(2)", t.count(2), 0);
        Check.same("count(3)", t.count(3), WayTables.NONE);
        Check.failsState("insert", () -> t.insert(0, 0, 0));
        Check.failsState("change", () -> t.change(0, 0));
        Check.failsState("remove", () -> t.remove());
        Check.failsState("match", () -> t.match());
        Check.failsState("make", () -> t.make(1, 1, 1));
    }

    private static void valuesAndMasksAreGone(WayTables t) {
        for (int i = 0; i < 4; i++) {
            Check.same("key", t.key(8, Tables.MASKED), i);
        }
        t.make(2, 0, 0);
        Check.same("match in the new table", t.match(), WayTables.NONE);
        Check.yes("insert with masks of 0", t.insert(0, 1, 10));
        for (int i = 0; i < 4; i++) {
            t.set(i, 99, -1);
        }
        Check.same("match of the entry without ones", t.match(), 1);
        t.clear();
        for (int i = 0; i < 4; i++) {
            t.key(8, Tables.EXACT);
        }
        t.make(16, 1, 0);
        Check.same("bucket of values of 0", t.bucket(), 0);
        Check.no("exact masks of 0", t.insert(0, 2, 20));
    }

    private static void bucketsAreEmptyAgain() {
        WayTables t = Tables.hashed(1, 1, 1);
        Tables.insert(t, 1, -1, 0, 0, 0);
        Tables.insert(t, 2, -1, 0, 0, 0);
        Check.same("count(1) before", t.count(1), 1);
        t.clear();
        t.key(8, Tables.EXACT);
        t.make(1, 1, 1);
        Check.same("count(0) after", t.count(0), 0);
        Check.same("count(1) after", t.count(1), 0);
        Check.yes("first insert after", Tables.insert(t, 1, -1, 0, 0, 0));
        Check.yes("second insert after", Tables.insert(t, 2, -1, 0, 0, 0));
        Check.no("third insert after", Tables.insert(t, 3, -1, 0, 0, 0));
        t.clear();
        t.key(8, Tables.PREFIX);
        t.make(1, 0, 0);
        Check.same("bucket() of a table that is not hashed", t.bucket(), WayTables.NONE);
        Tables.insert(t, 2, -1, 0, 0, 0);
        Check.same("count(1) of a table that is not hashed", t.count(1), 0);
    }

    private static void onANewObject() {
        WayTables t = new WayTables();
        t.clear();
        t.clear();
        Check.same("key after clear of a new object", t.key(1, 0), 0);
    }
}
