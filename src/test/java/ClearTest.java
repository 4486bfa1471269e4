/** Promise 2: all is as at first. */
public final class ClearTest {
    public static void main(String[] args) {
        WayTables t = Tables.hashed(1, 1, 1);
        for (int i = 0; i < 4; i++) {
            t.set(i, 7, -1);
        }
        t.insert(0, 3, 30);
        t.match();
        Check.same("datum() before", t.datum(), 30);
        t.clear();
        isAsAtFirst(t);
        valuesAndMasksAreGone(t);
        bucketsAreEmptyAgain();
        onANewObject();
        isLikeANewObject();
        Check.end();
    }

    private static void isAsAtFirst(WayTables t) {
        Check.same("datum()", t.datum(), 0);
        Check.same("bucket()", t.bucket(), WayTables.NONE);
        Check.same("count(0)", t.count(0), WayTables.NONE);
        Check.same("count(1)", t.count(1), WayTables.NONE);
        Check.same("count(2)", t.count(2), 0);
        Check.same("count(3)", t.count(3), WayTables.NONE);
        Check.failsState("insert", () -> t.insert(0, 0, 0));
        Check.failsState("change", () -> t.change(0, 0));
        Check.failsState("remove", () -> t.remove());
        Check.failsState("match", () -> t.match());
        Check.failsState("make", () -> t.make(1, 1, 1));
    }

    private static void valuesAndMasksAreGone(WayTables t) {
        for (int i = 0; i < 4; i++) {
            Check.same("key", t.key(8, Tables.MASKED), i);
        }
        t.make(2, 0, 0);
        Check.same("match in the new table", t.match(), WayTables.NONE);
        Check.yes("insert with masks of 0", t.insert(0, 1, 10));
        for (int i = 0; i < 4; i++) {
            t.set(i, 99, -1);
        }
        Check.same("match of the entry without ones", t.match(), 1);
        t.clear();
        for (int i = 0; i < 4; i++) {
            t.key(8, Tables.EXACT);
        }
        t.make(16, 1, 0);
        Check.same("bucket of values of 0", t.bucket(), 0);
        Check.no("exact masks of 0", t.insert(0, 2, 20));
    }

    private static void bucketsAreEmptyAgain() {
        WayTables t = Tables.hashed(1, 1, 1);
        Tables.insert(t, 1, -1, 0, 0, 0);
        Tables.insert(t, 2, -1, 0, 0, 0);
        Check.same("count(1) before", t.count(1), 1);
        t.clear();
        t.key(8, Tables.EXACT);
        t.make(1, 1, 1);
        Check.same("count(0) after", t.count(0), 0);
        Check.same("count(1) after", t.count(1), 0);
        Check.yes("first insert after", Tables.insert(t, 1, -1, 0, 0, 0));
        Check.yes("second insert after", Tables.insert(t, 2, -1, 0, 0, 0));
        Check.no("third insert after", Tables.insert(t, 3, -1, 0, 0, 0));
        t.clear();
        t.key(8, Tables.PREFIX);
        t.make(1, 0, 0);
        Check.same("bucket() of a table that is not hashed", t.bucket(), WayTables.NONE);
        Tables.insert(t, 2, -1, 0, 0, 0);
        Check.same("count(1) of a table that is not hashed", t.count(1), 0);
    }

    private static WayTables full(int n, int w, int s, int... kinds) {
        WayTables t = Tables.withKeys(8, kinds);
        t.make(n, w, s);
        for (int i = 0; i < 4; i++) {
            t.set(i, 1, -1);
        }
        for (int v = 0; v < 80; v++) {
            Tables.insert(t, v, -1, v, v & 7, v);
        }
        Check.same("entries before clear", t.count(0), t.count(3));
        Check.same("match before clear", Tables.match(t, 0), 0);
        t.set(0, -1, -1);
        return t;
    }

    private static void clearedIsNew(String what, WayTables t) {
        t.clear();
        Twins.alike("cleared " + what, t, new WayTables());
    }

    private static void isLikeANewObject() {
        clearedIsNew("new object", new WayTables());
        clearedIsNew("one key", Tables.withKeys(8, 0));
        clearedIsNew("four keys", Tables.withKeys(64, 2, 2, 2, 2));
        clearedIsNew("prefix key", Tables.withKeys(1, 1));
        clearedIsNew("empty table", Tables.hashed(16, 4, 8));
        clearedIsNew("full hashed table of one", full(1, 1, 0, 0));
        clearedIsNew("full hashed table of 72", full(16, 4, 8, 0));
        clearedIsNew("full hashed table of four keys", full(1, 4, 8, 0, 0, 0, 0));
        clearedIsNew("full prefix table", full(32, 0, 0, 1));
        clearedIsNew("full masked table", full(32, 0, 0, 2, 2, 0));
        WayTables values = new WayTables();
        for (int i = 0; i < 4; i++) {
            values.set(i, -1, -1);
        }
        clearedIsNew("object with values", values);
        WayTables twice = full(32, 0, 0, 2);
        twice.clear();
        clearedIsNew("cleared object", twice);
    }

    private static void onANewObject() {
        WayTables t = new WayTables();
        t.clear();
        t.clear();
        Check.same("key after clear of a new object", t.key(1, 0), 0);
    }
}
