/** Promise 10: datum. */
public final class DatumTest {
    public static void main(String[] args) {
        WayTables t = Tables.hashed(4, 2, 0);
        Check.same("datum before a match", t.datum(), 0);
        Tables.insert(t, 1, -1, 0, 1, Long.MAX_VALUE);
        Check.same("insert is no match", t.datum(), 0);
        Tables.insert(t, 2, -1, 0, 2, -7);
        Check.same("match", Tables.match(t, 1), 1);
        Check.same("datum of it", t.datum(), Long.MAX_VALUE);
        Check.same("datum again", t.datum(), Long.MAX_VALUE);
        Check.same("match of the other", Tables.match(t, 2), 2);
        Check.same("datum of the other", t.datum(), -7);
        otherCallsLeaveIt(t);
        Check.same("match of none", Tables.match(t, 9), WayTables.NONE);
        Check.same("datum of none", t.datum(), 0);
        Check.end();
    }

    private static void otherCallsLeaveIt(WayTables t) {
        t.set(0, 2, -1);
        t.change(3, 33);
        Check.same("change is no match", t.datum(), -7);
        t.remove();
        Check.same("remove is no match", t.datum(), -7);
        t.insert(0, 4, 44);
        t.bucket();
        t.count(0);
        Check.failsState("key in a made table", () -> t.key(8, 0));
        Check.same("nor are the others", t.datum(), -7);
        t.match();
        Check.same("a new match", t.datum(), 44);
    }
}
