/** Promise 10: datum. */
public final class DatumTest {
    public static void main(String[] args) {
        WayTables t = Tables.hashed(4, 2, 0);
        Check.same("datum before a match", t.datum(), 0);
        Tables.insert(t, 1, -1, 0, 1, Long.MAX_VALUE);
        Check.same("insert is no match", t.datum(), 0);
        Tables.insert(t, 2, -1, 0, 2, -7);
        Check.same("match", Tables.match(t, 1), 1);
        Check.same("datum of it", t.datum(), Long.MAX_VALUE);
        Check.same("datum again", t.datum(), Long.MAX_VALUE);
        Check.same("match of the other", Tables.match(t, 2), 2);
        Check.same("datum of the other", t.datum(), -7);
        otherCallsLeaveIt(t);
        Check.same("match of none", Tables.match(t, 9), WayTables.NONE);
        Check.same("datum of none", t.datum(), 0);
        withoutAMatch();
        theLatestCounts();
        aMatchThatThrows();
        Check.end();
    }

    private static void withoutAMatch() {
        for (int kind = 0; kind <= 2; kind++) {
            WayTables t = new WayTables();
            Check.same("datum of a new object", t.datum(), 0);
            t.key(8, kind);
            Check.same("datum with a key", t.datum(), 0);
            t.make(1, 1, 0);
            Check.same("datum of an empty table", t.datum(), 0);
            Check.same("match in an empty table", t.match(), WayTables.NONE);
            Check.same("datum after it", t.datum(), 0);
            Tables.insert(t, 1, -1, 0, 1, 11);
            Check.same("datum of a full table", t.datum(), 0);
            t.match();
            Check.same("datum of a match", t.datum(), 11);
            t.clear();
            Check.same("datum after clear", t.datum(), 0);
            t.key(8, kind);
            t.make(1, 1, 0);
            Check.same("datum of the next table", t.datum(), 0);
        }
    }

    private static void theLatestCounts() {
        WayTables t = Tables.masked(4);
        long[] data = {Long.MIN_VALUE, 0, -1, Long.MAX_VALUE};
        for (int v = 0; v < 4; v++) {
            Tables.insert(t, v, -1, 0, v, data[v]);
        }
        for (int v = 0; v < 4; v++) {
            Tables.match(t, v);
            Check.same("the datum " + data[v], t.datum(), data[v]);
        }
        Tables.match(t, 4);
        Check.same("found, then none", t.datum(), 0);
        Tables.match(t, 4);
        Check.same("none again", t.datum(), 0);
        Tables.match(t, 2);
        Check.same("none, then found", t.datum(), -1);
    }

    private static void aMatchThatThrows() {
        WayTables t = Tables.withKeys(8, 0);
        Check.failsState("match without a table", () -> t.match());
        Check.same("datum after it", t.datum(), 0);
    }

    private static void otherCallsLeaveIt(WayTables t) {
        t.set(0, 2, -1);
        t.change(3, 33);
        Check.same("change is no match", t.datum(), -7);
        t.remove();
        Check.same("remove is no match", t.datum(), -7);
        t.insert(0, 4, 44);
        t.bucket();
        t.count(0);
        Check.failsState("key in a made table", () -> t.key(8, 0));
        Check.same("nor are the others", t.datum(), -7);
        t.match();
        Check.same("a new match", t.datum(), 44);
    }
}
