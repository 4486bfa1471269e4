/** Promise 1: no keys, no table. */
public final class NewObjectTest {
    public static void main(String[] args) {
        WayTables t = new WayTables();
        Check.same("count(2)", t.count(2), 0);
        Check.same("count(0)", t.count(0), WayTables.NONE);
        Check.same("count(1)", t.count(1), WayTables.NONE);
        Check.same("count(3)", t.count(3), WayTables.NONE);
        Check.same("bucket()", t.bucket(), WayTables.NONE);
        Check.same("datum()", t.datum(), 0);
        Check.failsState("make without a key", () -> t.make(1, 1, 0));
        Check.failsState("insert without a table", () -> t.insert(0, 0, 0));
        Check.failsState("change without a table", () -> t.change(0, 0));
        Check.failsState("remove without a table", () -> t.remove());
        Check.failsState("match without a table", () -> t.match());
        objectsAreApart();
        Check.end();
    }

    private static void objectsAreApart() {
        WayTables one = Tables.hashed(4, 1, 0);
        Tables.insert(one, 1, -1, 0, 5, 50);
        WayTables other = new WayTables();
        Check.same("another object's count(2)", other.count(2), 0);
        Check.same("another object's key", other.key(8, 0), 0);
        other.make(4, 1, 0);
        Check.same("another object's match", Tables.match(other, 1), WayTables.NONE);
        Check.same("the first object's match", Tables.match(one, 1), 5);
    }
}
