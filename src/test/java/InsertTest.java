/** Promise 6: insert. */
public final class InsertTest {
    public static void main(String[] args) {
        withoutATable();
        actions();
        exactMasks();
        prefixMasks();
        wideMasks();
        maskedMasks();
        sameValuesAndMasks();
        roomOfAHashedTable();
        roomOfTheGreatestTable();
        roomOfAListedTable();
        aRefusedEntryLeavesNothing();
        theSameWhenFull();
        theSameInEveryKey();
        Check.end();
    }

    private static void withoutATable() {
        WayTables t = Tables.withKeys(8, 0);
        Check.failsState("insert without a table", () -> t.insert(0, 0, 0));
        Check.failsState("wrong insert without a table", () -> t.insert(0, 8, 0));
    }

    private static void actions() {
        int[] wrong = {-1, 8, Integer.MIN_VALUE, Integer.MAX_VALUE};
        for (int action : wrong) {
            Check.no("action " + action, Tables.insert(Tables.hashed(1, 1, 0), 1, -1, 0, action, 0));
        }
        for (int action = 0; action <= 7; action++) {
            WayTables t = Tables.hashed(1, 1, 0);
            Check.yes("action " + action, Tables.insert(t, 1, -1, 0, action, 0));
            Check.same("its match", t.match(), action);
        }
    }

    private static void exactMasks() {
        for (long mask = 0; mask <= 255; mask++) {
            WayTables t = Tables.hashed(1, 1, 0);
            Check.same("exact mask " + mask, Tables.insert(t, 1, mask, 0, 0, 0) ? 1 : 0, mask == 255 ? 1 : 0);
        }
        Check.yes("a mask above the width", Tables.insert(Tables.hashed(1, 1, 0), 1, 0xFFFL, 0, 0, 0));
        Check.no("ones above the width alone", Tables.insert(Tables.hashed(1, 1, 0), 1, ~0xFFL, 0, 0, 0));
        WayTables two = Tables.withKeys(8, 0, 0);
        two.make(1, 4, 0);
        two.set(0, 1, -1);
        Check.no("the second mask is none", two.insert(0, 0, 0));
        two.set(1, 1, -1);
        Check.yes("both masks are right", two.insert(0, 0, 0));
        two.set(0, 1, 1);
        two.set(1, 2, -1);
        Check.no("the first mask is none", two.insert(0, 0, 0));
    }

    private static void prefixMasks() {
        for (long mask = 0; mask <= 255; mask++) {
            boolean due = mask == 0 || mask == 0x80 || mask == 0xC0 || mask == 0xE0 || mask == 0xF0
                || mask == 0xF8 || mask == 0xFC || mask == 0xFE || mask == 0xFF;
            Check.same("prefix mask " + mask, Tables.insert(Tables.prefixed(1), 1, mask, 0, 0, 0) ? 1 : 0, due ? 1 : 0);
            long above = mask | 0x5500L;
            Check.same("prefix mask " + above, Tables.insert(Tables.prefixed(1), 1, above, 0, 0, 0) ? 1 : 0, due ? 1 : 0);
        }
    }

    private static boolean takes(int width, int kind, long mask) {
        WayTables t = Tables.withKeys(width, kind);
        t.make(1, 1, 0);
        return Tables.insert(t, 1, mask, 0, 0, 0);
    }

    private static void wideMasks() {
        for (int ones = 0; ones <= 64; ones++) {
            long mask = ones == 0 ? 0L : -1L << (64 - ones);
            Check.yes("prefix of " + ones + " in 64 bits", takes(64, 1, mask));
            Check.same("exact of " + ones + " in 64 bits", takes(64, 0, mask) ? 1 : 0, ones == 64 ? 1 : 0);
        }
        Check.no("the top of 64 is missing", takes(64, 1, -1L >>> 1));
        Check.no("the lowest alone", takes(64, 1, 1L));
        Check.yes("the top of 63 alone", takes(63, 1, 1L << 62));
        Check.yes("one bit, none", takes(1, 1, 0L));
        Check.yes("one bit, one", takes(1, 1, 1L));
        Check.yes("one bit, exact", takes(1, 0, 1L));
        Check.no("one bit, none, exact", takes(1, 0, 2L));
    }

    private static void maskedMasks() {
        for (long mask = 0; mask <= 255; mask++) {
            Check.yes("masked mask " + mask, Tables.insert(Tables.masked(1), 1, mask, 0, 0, 0));
        }
    }

    private static void sameValuesAndMasks() {
        WayTables h = Tables.hashed(1, 4, 0);
        Check.yes("a value", Tables.insert(h, 5, -1, 0, 1, 1));
        Check.no("the same", Tables.insert(h, 5, 255, 9, 2, 2));
        Check.no("the same when cut", Tables.insert(h, 5 + 256, -1, 0, 1, 1));
        Check.yes("another", Tables.insert(h, 6, -1, 0, 1, 1));
        WayTables m = Tables.masked(32);
        Check.yes("value and mask", Tables.insert(m, 0x5, 0x4, 0, 1, 1));
        Check.no("the same where the mask has ones", Tables.insert(m, 0x6, 0x4, 0, 1, 1));
        Check.no("the same mask when cut", Tables.insert(m, 0xF04, 0xF04, 0, 1, 1));
        Check.yes("another value", Tables.insert(m, 0x2, 0x4, 0, 1, 1));
        Check.yes("another mask with the same value", Tables.insert(m, 0x4, 0x5, 0, 1, 1));
        Check.yes("no ones", Tables.insert(m, 9, 0, 0, 1, 1));
        Check.no("no ones again", Tables.insert(m, 8, 0, 0, 1, 1));
        Check.same("count(0)", m.count(0), 4);
    }

    private static void roomOfAHashedTable() {
        WayTables t = Tables.hashed(2, 2, 1);
        Check.yes("bucket 0, first", Tables.insert(t, 0, -1, 0, 1, 1));
        Check.same("bucket of 0", t.bucket(), 0);
        Check.yes("bucket 0, second", Tables.insert(t, 2, -1, 0, 1, 1));
        Check.yes("bucket 0, stashed", Tables.insert(t, 4, -1, 0, 1, 1));
        Check.same("count(1)", t.count(1), 1);
        Check.no("bucket 0, no room", Tables.insert(t, 6, -1, 0, 1, 1));
        Check.yes("bucket 1, first", Tables.insert(t, 1, -1, 0, 1, 1));
        Check.same("bucket of 1", t.bucket(), 1);
        Check.yes("bucket 1, second", Tables.insert(t, 3, -1, 0, 1, 1));
        Check.no("bucket 1, no room", Tables.insert(t, 5, -1, 0, 1, 1));
        Check.same("count(0)", t.count(0), 5);
        WayTables bare = Tables.hashed(2, 1, 0);
        Check.yes("no stash, first", Tables.insert(bare, 0, -1, 0, 1, 1));
        Check.no("no stash, second", Tables.insert(bare, 2, -1, 0, 1, 1));
    }

    private static void roomOfTheGreatestTable() {
        WayTables t = Tables.hashed(16, 4, 8);
        int came = 0;
        for (int v = 0; v < 128; v++) {
            came += Tables.insert(t, v, -1, 0, v & 7, v) ? 1 : 0;
        }
        Check.same("entries that came", came, 72);
        Check.same("count(0)", t.count(0), 72);
        Check.same("count(1)", t.count(1), 8);
        for (int v = 0; v < 72; v++) {
            Check.same("match of " + v, Tables.match(t, v), v & 7);
            Check.same("datum of " + v, t.datum(), v);
        }
        Check.same("match of one that did not come", Tables.match(t, 72), WayTables.NONE);
    }

    private static void roomOfAListedTable() {
        WayTables t = Tables.masked(32);
        for (int v = 0; v < 32; v++) {
            Check.yes("entry " + v, Tables.insert(t, v, -1, 0, 1, 1));
        }
        Check.no("a 33rd entry", Tables.insert(t, 32, -1, 0, 1, 1));
        WayTables one = Tables.prefixed(1);
        Check.yes("the only entry", Tables.insert(one, 0, 0, 0, 1, 1));
        Check.no("a second entry", Tables.insert(one, 0, -1, 0, 1, 1));
        one.set(0, 0, 0);
        one.remove();
        Check.yes("room comes again", Tables.insert(one, 0, -1, 0, 1, 1));
    }

    private static void theSameWhenFull() {
        for (int kind = 0; kind <= 2; kind++) {
            WayTables t = Tables.withKeys(8, kind);
            t.make(1, 1, 0);
            Check.yes("the only one", Tables.insert(t, 1, -1, 0, 1, 10));
            Check.no("the same in a full table", Tables.insert(t, 1, -1, 5, 2, 20));
            Check.no("another in a full table", Tables.insert(t, 2, -1, 5, 2, 20));
            Check.same("the only one stays", Tables.match(t, 1), 1);
            Check.same("its datum stays", t.datum(), 10);
            t.set(0, 1, -1);
            t.remove();
            Check.yes("the same when it has gone", t.insert(5, 2, 20));
            Check.same("it is the new one", t.match(), 2);
        }
    }

    /** Entries that differ in one key alone, by its value or by its mask, are not the same. */
    private static void theSameInEveryKey() {
        for (int i = 0; i < 4; i++) {
            WayTables h = Tables.withKeys(8, 0, 0, 0, 0);
            h.make(1, 2, 0);
            WayTables m = Tables.withKeys(8, 2, 2, 2, 2);
            m.make(3, 0, 0);
            for (int k = 0; k < 4; k++) {
                h.set(k, 1, -1);
                m.set(k, 1, -1);
            }
            Check.yes("hashed, the first", h.insert(0, 1, 1));
            Check.no("hashed, the same", h.insert(0, 1, 1));
            Check.yes("masked, the first", m.insert(0, 1, 1));
            Check.no("masked, the same", m.insert(0, 1, 1));
            h.set(i, 2, -1);
            Check.yes("hashed, another value of key " + i, h.insert(0, 1, 1));
            m.set(i, 2, -1);
            Check.yes("masked, another value of key " + i, m.insert(0, 1, 1));
            m.set(i, 1, 1);
            Check.yes("masked, another mask of key " + i, m.insert(0, 1, 1));
        }
    }

    private static void aRefusedEntryLeavesNothing() {
        WayTables t = Tables.hashed(1, 1, 1);
        Check.no("no such action", Tables.insert(t, 1, -1, 0, 8, 1));
        Check.no("no such mask", Tables.insert(t, 1, 1, 0, 1, 1));
        Check.same("count(0)", t.count(0), 0);
        Check.same("match", t.match(), WayTables.NONE);
        Check.yes("an entry", Tables.insert(t, 1, -1, 0, 1, 10));
        Check.no("the same", Tables.insert(t, 1, -1, 0, 2, 20));
        Check.same("its action stays", t.match(), 1);
        Check.same("its datum stays", t.datum(), 10);
        Check.same("count(1)", t.count(1), 0);
    }
}
