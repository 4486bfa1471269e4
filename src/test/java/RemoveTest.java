/** Promise 8: remove. */
public final class RemoveTest {
    public static void main(String[] args) {
        withoutATable();
        itGoes();
        valuesAndMasks();
        theStashEmpties();
        theOthersKeepTheirTurn();
        theOthersKeepAllTheyHave();
        theOthersKeepTheirPriority();
        untilNoneIsThere();
        wrongMasks();
        Check.end();
    }

    private static void withoutATable() {
        WayTables t = Tables.withKeys(8, 0);
        Check.failsState("remove without a table", () -> t.remove());
    }

    private static void itGoes() {
        WayTables t = Tables.hashed(4, 1, 0);
        t.set(0, 1, -1);
        Check.no("remove from an empty table", t.remove());
        Check.same("count(0)", t.count(0), 0);
        t.insert(0, 1, 10);
        Check.yes("remove", t.remove());
        Check.same("match", t.match(), WayTables.NONE);
        Check.same("count(0)", t.count(0), 0);
        Check.no("remove again", t.remove());
        Check.yes("insert again", t.insert(0, 2, 20));
        Check.same("match again", t.match(), 2);
    }

    private static void valuesAndMasks() {
        WayTables e = Tables.hashed(4, 1, 0);
        Tables.insert(e, 1, -1, 0, 1, 10);
        e.set(0, 1, 1);
        Check.no("a wrong exact mask", e.remove());
        e.set(0, 257, 0x1FF);
        Check.yes("cut to the key", e.remove());
        WayTables p = Tables.prefixed(4);
        Tables.insert(p, 0xA0, 0xF0, 0, 1, 10);
        p.set(0, 0xA0, 0xFF);
        Check.no("another prefix mask", p.remove());
        p.set(0, 0xB0, 0xF0);
        Check.no("another value", p.remove());
        p.set(0, 0xAF, 0xF0);
        Check.yes("the same where the mask has ones", p.remove());
        Check.same("count(0)", p.count(0), 0);
    }

    private static void theStashEmpties() {
        WayTables t = Tables.hashed(2, 1, 1);
        Tables.insert(t, 0, -1, 0, 1, 10);
        Tables.insert(t, 2, -1, 0, 2, 20);
        Tables.insert(t, 1, -1, 0, 3, 30);
        Check.no("the stash is full", Tables.insert(t, 3, -1, 0, 4, 40));
        t.set(0, 0, -1);
        Check.yes("remove of the first in its bucket", t.remove());
        Check.same("count(1)", t.count(1), 0);
        Check.same("the stashed one matches", Tables.match(t, 2), 2);
        Check.yes("the stash has room for another bucket", Tables.insert(t, 3, -1, 0, 4, 40));
        Check.same("count(1) again", t.count(1), 1);
        Check.no("the stash is full again", Tables.insert(t, 0, -1, 0, 5, 50));
    }

    private static void theOthersKeepTheirTurn() {
        WayTables t = Tables.masked(4);
        for (int i = 0; i < 4; i++) {
            Tables.insert(t, 1L << i, 1L << i, 0, i, i);
        }
        t.set(0, 1, 1);
        t.remove();
        Check.same("the second is now the first", Tables.match(t, 15), 1);
        Tables.insert(t, 1, 1, 0, 7, 7);
        Check.same("one that comes again is the last", Tables.match(t, 15), 1);
        Check.same("behind the fourth", Tables.match(t, 9), 3);
        t.set(0, 4, 4);
        t.remove();
        Check.same("the fourth before the last", Tables.match(t, 13), 3);
        t.set(0, 1, 1);
        Check.yes("remove of the last", t.remove());
        Check.same("count(0)", t.count(0), 2);
    }

    private static void theOthersKeepAllTheyHave() {
        WayTables t = Tables.withKeys(8, 1, 0, 0, 0);
        t.make(3, 0, 0);
        int[] prefix = {0x00, 0xF0, 0xC0};
        for (int e = 0; e < 3; e++) {
            t.set(0, 0xFF, prefix[e]);
            for (int i = 1; i < 4; i++) {
                t.set(i, e == 0 ? 9 : i, -1);
            }
            t.insert(e, e + 1, 10 * e);
        }
        t.set(0, 0, 0);
        for (int i = 1; i < 4; i++) {
            t.set(i, 9, -1);
        }
        Check.yes("remove of the first", t.remove());
        for (int i = 1; i < 4; i++) {
            t.set(i, i, -1);
        }
        Check.same("the longer prefix", Tables.match(t, 0xF1), 2);
        Check.same("its datum", t.datum(), 10);
        Check.same("the shorter prefix", Tables.match(t, 0xE1), 3);
        Check.same("its datum", t.datum(), 20);
        t.set(3, 9, -1);
        Check.same("another last key", Tables.match(t, 0xF1), WayTables.NONE);
    }

    /** From the first on, and from the last on. */
    private static void untilNoneIsThere() {
        for (int back = 0; back <= 1; back++) {
            removeAll(Tables.hashed(16, 4, 8), 72, back == 1);
            removeAll(Tables.hashed(1, 1, 0), 1, back == 1);
            removeAll(Tables.prefixed(32), 32, back == 1);
            removeAll(Tables.masked(32), 32, back == 1);
        }
    }

    private static void removeAll(WayTables t, int size, boolean back) {
        for (int v = 0; v < size; v++) {
            Check.yes("insert of " + v, Tables.insert(t, v, -1, 0, v & 7, v));
        }
        for (int turn = 0; turn < size; turn++) {
            int v = back ? size - 1 - turn : turn;
            t.set(0, v, -1);
            Check.yes("remove of " + v, t.remove());
            Check.same("entries that stay", t.count(0), size - 1 - turn);
        }
        Check.no("remove from an emptied table", t.remove());
        Check.same("count(0)", t.count(0), 0);
        Check.same("count(1)", t.count(1), 0);
        Check.same("match", t.match(), WayTables.NONE);
        Check.yes("insert into an emptied table", t.insert(0, 5, 50));
        Check.same("match of it", t.match(), 5);
    }

    private static void wrongMasks() {
        WayTables p = Tables.prefixed(2);
        Tables.insert(p, 0, 0, 0, 1, 10);
        p.set(0, 0, 1);
        Check.no("a mask that is no prefix", p.remove());
        p.set(0, 0, 0x80);
        Check.no("a prefix that is not there", p.remove());
        p.set(0, 0, 0x100);
        Check.yes("a mask that is cut to none", p.remove());
        WayTables e = Tables.hashed(1, 1, 0);
        Tables.insert(e, 0, -1, 0, 1, 10);
        e.set(0, 0, 0);
        Check.no("an exact mask without ones", e.remove());
        e.set(0, 0, 0xFF);
        Check.yes("an exact mask that is just as wide", e.remove());
    }

    private static void theOthersKeepTheirPriority() {
        WayTables t = Tables.masked(3);
        Tables.insert(t, 1, 1, 2, 1, 10);
        Tables.insert(t, 2, 2, 0, 2, 20);
        Tables.insert(t, 4, 4, 1, 3, 30);
        t.set(0, 1, 1);
        t.remove();
        Check.same("the greater priority of those that stay", Tables.match(t, 7), 3);
    }
}
