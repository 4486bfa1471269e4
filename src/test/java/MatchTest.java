/** Promise 9: match. */
public final class MatchTest {
    public static void main(String[] args) {
        withoutATable();
        emptyTables();
        theGreatestTable();
        exactKeys();
        maskedKeys();
        prefixComesFirst();
        priorityComesNext();
        thenTheFirstToCome();
        onlyThePrefixMaskCounts();
        wideKeys();
        Check.end();
    }

    private static void withoutATable() {
        WayTables t = Tables.withKeys(8, 0);
        Check.failsState("match without a table", () -> t.match());
        WayTables bare = new WayTables();
        Check.failsState("match of a new object", () -> bare.match());
        WayTables cleared = Tables.hashed(1, 1, 0);
        Tables.insert(cleared, 1, -1, 0, 1, 1);
        cleared.clear();
        Check.failsState("match of a cleared object", () -> cleared.match());
    }

    private static void emptyTables() {
        for (int kind = 0; kind <= 2; kind++) {
            WayTables t = Tables.withKeys(8, kind);
            t.make(1, 1, 0);
            Check.same("match in a new table", t.match(), WayTables.NONE);
            Tables.insert(t, 0, -1, 0, 0, 0);
            Check.same("the action 0 is not NONE", t.match(), 0);
            t.remove();
            Check.same("match when all are gone", t.match(), WayTables.NONE);
        }
    }

    /** The first and the last of the greatest number, ways and stash alike. */
    private static void theGreatestTable() {
        WayTables t = Tables.hashed(16, 4, 8);
        for (int v = 0; v < 72; v++) {
            Check.yes("entry " + v, Tables.insert(t, v, -1, -v, v & 7, v));
        }
        for (int v = 0; v < 72; v++) {
            Check.same("match of " + v, Tables.match(t, v), v & 7);
        }
        Check.same("match of the next", Tables.match(t, 72), WayTables.NONE);
    }

    private static void exactKeys() {
        WayTables t = Tables.withKeys(8, 0, 0);
        t.make(4, 2, 2);
        Check.same("match in an empty table", t.match(), WayTables.NONE);
        t.set(0, 1, -1);
        t.set(1, 2, -1);
        t.insert(0, 0, 10);
        Check.same("the action 0", t.match(), 0);
        t.set(0, 0x301, 0);
        t.set(1, 0x702, 1);
        Check.same("masks do not count, values are cut", t.match(), 0);
        t.set(1, 1, -1);
        Check.same("another second value", t.match(), WayTables.NONE);
        t.set(1, 2, -1);
        t.set(0, 2, -1);
        Check.same("another first value", t.match(), WayTables.NONE);
    }

    private static void maskedKeys() {
        for (int from = 0; from < 256; from += 64) {
            WayTables part = Tables.masked(4);
            Tables.insert(part, 0x5F, 0xA5, 0, 4, 40);
            for (int v = from; v < from + 64; v++) {
                int due = (v & 0xA5) == 0x05 ? 4 : WayTables.NONE;
                Check.same("match of " + v, Tables.match(part, v), due);
            }
        }
        WayTables t = Tables.masked(4);
        Tables.insert(t, 0x5F, 0xA5, 0, 4, 40);
        Tables.insert(t, 0, 0, -1, 2, 20);
        Check.same("no ones match all", Tables.match(t, 0xA0), 2);
        Check.same("the greater priority", Tables.match(t, 0x05), 4);
    }

    private static void prefixComesFirst() {
        WayTables t = Tables.prefixed(4);
        Tables.insert(t, 0xF0, 0xF0, 1, 2, 20);
        Tables.insert(t, 0xFF, 0xFF, -5, 3, 30);
        Tables.insert(t, 0x00, 0x00, 9, 1, 10);
        Check.same("eight ones", Tables.match(t, 0xFF), 3);
        Check.same("four ones", Tables.match(t, 0xF7), 2);
        Check.same("no ones", Tables.match(t, 0x77), 1);
    }

    private static void priorityComesNext() {
        int[][] rows = {{0, 1}, {-2, -1}, {Integer.MIN_VALUE, Integer.MAX_VALUE}, {-1, 0}, {Integer.MIN_VALUE, 0}};
        for (int[] row : rows) {
            WayTables t = Tables.masked(4);
            Tables.insert(t, 1, 1, row[0], 1, 10);
            Tables.insert(t, 2, 2, row[1], 2, 20);
            Check.same("the greater priority, later", Tables.match(t, 3), 2);
            WayTables u = Tables.masked(4);
            Tables.insert(u, 1, 1, row[1], 1, 10);
            Tables.insert(u, 2, 2, row[0], 2, 20);
            Check.same("the greater priority, earlier", Tables.match(u, 3), 1);
        }
    }

    private static void thenTheFirstToCome() {
        WayTables t = Tables.masked(4);
        Tables.insert(t, 3, 3, 5, 7, 70);
        Tables.insert(t, 1, 1, 5, 1, 10);
        Tables.insert(t, 0, 0, 5, 0, 0);
        Check.same("the first of three", Tables.match(t, 3), 7);
        Check.same("the first of two", Tables.match(t, 1), 1);
        Check.same("the only one", Tables.match(t, 2), 0);
    }

    private static void onlyThePrefixMaskCounts() {
        WayTables m = Tables.masked(4);
        Tables.insert(m, 1, 1, 0, 1, 10);
        Tables.insert(m, 0xFF, 0xFF, 0, 2, 20);
        Check.same("more ones in a masked key are worth nothing", Tables.match(m, 0xFF), 1);
        WayTables p = new WayTables();
        p.key(64, 0);
        p.key(8, 1);
        p.key(8, 0);
        p.make(4, 0, 0);
        p.set(0, -1, -1);
        p.set(2, 3, -1);
        p.set(1, 0xC0, 0xC0);
        p.insert(9, 1, 10);
        p.set(1, 0xE0, 0xE0);
        p.insert(0, 2, 20);
        p.set(1, 0xE7, 0);
        Check.same("more ones in the prefix of the second key", p.match(), 2);
        p.set(2, 4, 0);
        Check.same("the exact key is another", p.match(), WayTables.NONE);
    }

    private static void wideKeys() {
        WayTables t = Tables.withKeys(64, 1);
        t.make(4, 0, 0);
        Tables.insert(t, Long.MIN_VALUE, Long.MIN_VALUE, 0, 1, 10);
        Tables.insert(t, -1, -1, 0, 2, 20);
        Check.same("the top bit", Tables.match(t, -2), 1);
        Check.same("all bits", Tables.match(t, -1), 2);
        Check.same("the top bit is missing", Tables.match(t, Long.MAX_VALUE), WayTables.NONE);
    }
}
