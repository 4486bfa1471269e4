/** Promise 7: change. */
public final class ChangeTest {
    public static void main(String[] args) {
        withoutATable();
        actionAndDatum();
        wrongActions();
        valuesAndMasks();
        priorityAndTurnStay();
        everyEntryOfAFullTable();
        oneThatWent();
        wrongMasks();
        Check.end();
    }

    private static void withoutATable() {
        WayTables t = Tables.withKeys(8, 0);
        Check.failsState("change without a table", () -> t.change(0, 0));
        Check.failsState("wrong change without a table", () -> t.change(-1, 0));
    }

    private static void actionAndDatum() {
        WayTables t = Tables.hashed(4, 2, 0);
        Check.no("change in an empty table", t.change(1, 1));
        Tables.insert(t, 3, -1, 0, 1, 10);
        Tables.insert(t, 4, -1, 0, 2, 20);
        t.set(0, 3 + 512, 255);
        Check.yes("change", t.change(7, Long.MIN_VALUE));
        Check.same("match of the changed", Tables.match(t, 3), 7);
        Check.same("its datum", t.datum(), Long.MIN_VALUE);
        Check.same("match of the other", Tables.match(t, 4), 2);
        Check.same("its datum", t.datum(), 20);
        Check.same("count(0)", t.count(0), 2);
        t.set(0, 5, -1);
        Check.no("change of one that is not there", t.change(1, 1));
        Check.same("none comes by it", t.match(), WayTables.NONE);
    }

    private static void wrongActions() {
        WayTables t = Tables.hashed(4, 2, 0);
        Tables.insert(t, 3, -1, 0, 1, 10);
        int[] wrong = {-1, 8, Integer.MIN_VALUE, Integer.MAX_VALUE};
        for (int action : wrong) {
            Check.no("change to action " + action, t.change(action, 99));
            Check.same("the action stays", t.match(), 1);
            Check.same("the datum stays", t.datum(), 10);
        }
        for (int action = 0; action <= 7; action++) {
            Check.yes("change to action " + action, t.change(action, action));
            Check.same("the action", t.match(), action);
        }
    }

    private static void valuesAndMasks() {
        WayTables e = Tables.hashed(1, 1, 0);
        Tables.insert(e, 3, -1, 0, 1, 10);
        e.set(0, 3, 127);
        Check.no("a wrong exact mask", e.change(2, 20));
        Check.same("the action stays", e.match(), 1);
        WayTables p = Tables.prefixed(4);
        Tables.insert(p, 0xF0, 0xF0, 0, 1, 10);
        p.set(0, 0xF0, 0xF8);
        Check.no("another prefix mask", p.change(2, 20));
        p.set(0, 0xFF, 0xF0);
        Check.yes("the same where the mask has ones", p.change(3, 30));
        Check.same("match", p.match(), 3);
        WayTables two = Tables.withKeys(8, 2, 0);
        two.make(4, 0, 0);
        two.set(0, 1, 1);
        two.set(1, 2, -1);
        two.insert(0, 1, 10);
        two.set(1, 2, 3);
        Check.no("the second mask is wrong", two.change(2, 20));
        two.set(1, 3, -1);
        Check.no("the second value is another", two.change(2, 20));
        two.set(1, 2, -1);
        Check.yes("both are right", two.change(2, 20));
    }

    private static void changeAll(WayTables t, int size) {
        for (int v = 0; v < size; v++) {
            Tables.insert(t, v, -1, 0, 1, v);
        }
        for (int v = 0; v < size; v++) {
            t.set(0, v, -1);
            Check.yes("change of " + v, t.change(v & 7, -v));
            Check.same("match of " + v, t.match(), v & 7);
            Check.same("datum of " + v, t.datum(), -v);
        }
        t.set(0, size, -1);
        Check.no("change of one that had no room", t.change(1, 1));
        Check.same("count(0)", t.count(0), size);
    }

    private static void everyEntryOfAFullTable() {
        changeAll(Tables.hashed(1, 1, 0), 1);
        changeAll(Tables.hashed(16, 4, 8), 72);
        changeAll(Tables.prefixed(32), 32);
        changeAll(Tables.masked(1), 1);
    }

    private static void oneThatWent() {
        for (int kind = 0; kind <= 2; kind++) {
            WayTables t = Tables.withKeys(8, kind);
            t.make(1, 2, 0);
            Tables.insert(t, 1, -1, 0, 1, 10);
            t.remove();
            Check.no("change of one that went", t.change(2, 20));
            Check.same("it does not come again", t.match(), WayTables.NONE);
            Check.same("count(0)", t.count(0), 0);
        }
    }

    private static void wrongMasks() {
        WayTables p = Tables.prefixed(2);
        Tables.insert(p, 0, 0, 0, 1, 10);
        p.set(0, 0, 1);
        Check.no("a mask that is no prefix", p.change(2, 20));
        p.set(0, 0, 0x100);
        Check.yes("a mask that is cut to none", p.change(3, 30));
        Check.same("match", p.match(), 3);
        WayTables e = Tables.hashed(1, 1, 0);
        Tables.insert(e, 0, -1, 0, 1, 10);
        e.set(0, 0, 0);
        Check.no("an exact mask without ones", e.change(2, 20));
        e.set(0, 0, 0xFF);
        Check.yes("an exact mask that is just as wide", e.change(2, 20));
    }

    private static void priorityAndTurnStay() {
        WayTables t = Tables.masked(4);
        Tables.insert(t, 1, 1, 5, 1, 10);
        Tables.insert(t, 2, 2, 5, 2, 20);
        Tables.insert(t, 4, 4, 4, 3, 30);
        t.set(0, 1, 1);
        t.change(4, 40);
        Check.same("the turn stays", Tables.match(t, 7), 4);
        t.set(0, 2, 2);
        t.change(5, 50);
        Check.same("the later stays later", Tables.match(t, 7), 4);
        t.set(0, 4, 4);
        t.change(6, 60);
        Check.same("the lesser priority stays", Tables.match(t, 7), 4);
        Check.same("the greater priority stays", Tables.match(t, 6), 5);
    }
}
