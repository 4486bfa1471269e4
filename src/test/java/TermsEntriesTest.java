/**
 * Terms: "ENTRIES: a value for each key, a mask (exact: all ones; prefix: ones from the top, then none;
 * cut to the key's width; a value counts only where its mask has ones), a priority, an ACTION 0 .. 7,
 * a DATUM."
 */
public final class TermsEntriesTest {
    public static void main(String[] args) {
        for (int width = 1; width <= 64; width++) {
            exactMasks(width);
            prefixMasks(width);
            maskedMasks(width);
        }
        everyKeysMaskCounts();
        masksOfKeysThatAreNotThere();
        valuesCountWhereTheMaskHasOnes();
        actionsZeroToSeven();
        anyPriorityAndDatum();
        Check.end();
    }

    private static boolean takes(int width, int kind, long mask) {
        WayTables t = Tables.withKeys(width, kind);
        t.make(1, 1, 0);
        boolean came = Tables.insert(t, 0, mask, 0, 1, 1);
        Check.same("count(0)", t.count(0), came ? 1 : 0);
        return came;
    }

    private static long ones(int width) {
        return width == 64 ? -1L : (1L << width) - 1L;
    }

    private static void exactMasks(int width) {
        String name = "exact, width " + width + ": ";
        Check.yes(name + "all ones", takes(width, 0, ones(width)));
        Check.yes(name + "ones above too", takes(width, 0, -1L));
        Check.no(name + "none", takes(width, 0, 0L));
        for (int at = 0; at < width; at++) {
            Check.no(name + "without bit " + at, takes(width, 0, ~(1L << at)));
        }
        if (width < 64) {
            Check.yes(name + "without the bit above", takes(width, 0, ~(1L << width)));
            Check.no(name + "ones above alone", takes(width, 0, ~ones(width)));
        }
    }

    private static void prefixMasks(int width) {
        String name = "prefix, width " + width + ": ";
        for (int none = 0; none <= width; none++) {
            long mask = none == 64 ? 0L : ones(width) & -1L << none;
            Check.yes(name + none + " without", takes(width, 1, mask));
            Check.yes(name + none + " without, ones above", takes(width, 1, mask | ~ones(width)));
            if (none > 1) {
                Check.no(name + "a one at the end of " + none, takes(width, 1, mask | 1L));
            }
            if (none < width - 1) {
                Check.no(name + "the top is missing before " + none, takes(width, 1, mask & ~(1L << (width - 1))));
            }
        }
    }

    private static void maskedMasks(int width) {
        for (long mask : new long[] {0L, 1L, 1L << (width - 1), ones(width), -1L, 0x5555555555555555L, ~ones(width)}) {
            Check.yes("masked, width " + width + ", mask " + mask, takes(width, 2, mask));
        }
    }

    private static void everyKeysMaskCounts() {
        for (int at = 0; at < 4; at++) {
            for (int kind = 0; kind <= 2; kind++) {
                int[] kinds = new int[4];
                kinds[at] = kind;
                WayTables t = Tables.withKeys(8, kinds);
                t.make(1, 1, 0);
                for (int i = 0; i < 4; i++) {
                    t.set(i, 0, i == at ? 0x7F : 0xFF);
                }
                String name = "kind " + kind + " at " + at;
                Check.same(name + ", the top bit is missing", t.insert(0, 1, 1) ? 1 : 0, kind == 2 ? 1 : 0);
                t.set(at, 0, 0xFE);
                t.remove();
                t.set(at, 0, 0x7F);
                t.remove();
                t.set(at, 0, 0xFE);
                Check.same(name + ", the lowest bit is missing", t.insert(0, 1, 1) ? 1 : 0, kind >= 1 ? 1 : 0);
            }
        }
    }

    private static void masksOfKeysThatAreNotThere() {
        for (int keys = 1; keys <= 3; keys++) {
            WayTables t = Tables.withKeys(8, new int[keys]);
            t.make(1, 1, 0);
            for (int i = 0; i < 4; i++) {
                t.set(i, 1, i < keys ? -1 : 5);
            }
            Check.yes(keys + " keys", t.insert(0, 1, 1));
            t.set(3, 2, 6);
            Check.no(keys + " keys, the same entry", t.insert(0, 1, 1));
            Check.same(keys + " keys, match", t.match(), 1);
        }
    }

    private static void valuesCountWhereTheMaskHasOnes() {
        for (long mask = 0; mask <= 255; mask++) {
            WayTables t = Tables.masked(2);
            Check.yes("mask " + mask, Tables.insert(t, 0xAA, mask, 0, 1, 1));
            Check.no("the other bits do not count, mask " + mask, Tables.insert(t, 0xAA ^ ~mask, mask, 0, 1, 1));
            Check.same("nor in a match, mask " + mask, Tables.match(t, 0xAA ^ ~mask), 1);
            for (int at = 0; at < 8; at++) {
                int due = (mask >> at & 1) == 1 ? WayTables.NONE : 1;
                Check.same("bit " + at + " of mask " + mask, Tables.match(t, 0xAA ^ 1 << at), due);
            }
            t.set(0, 0xAA ^ ~mask, mask);
            Check.yes("nor in a change, mask " + mask, t.change(2, 2));
            t.set(0, 0xAA ^ ~mask, mask);
            Check.yes("nor in a remove, mask " + mask, t.remove());
        }
    }

    private static void actionsZeroToSeven() {
        for (int kind = 0; kind <= 2; kind++) {
            for (int action = -70; action <= 70; action++) {
                actionCounts(kind, action);
            }
            actionCounts(kind, Integer.MIN_VALUE);
            actionCounts(kind, Integer.MAX_VALUE);
        }
    }

    private static void actionCounts(int kind, int action) {
        boolean due = action >= 0 && action <= 7;
        String name = "kind " + kind + ", action " + action;
        WayTables t = Tables.withKeys(8, kind);
        t.make(1, 1, 0);
        Check.same(name + ", insert", Tables.insert(t, 1, -1, 0, action, 5) ? 1 : 0, due ? 1 : 0);
        Check.same(name + ", match", t.match(), due ? action : WayTables.NONE);
        t.insert(0, 4, 6);
        Check.same(name + ", change", t.change(action, 7) ? 1 : 0, due ? 1 : 0);
        Check.same(name + ", match after it", t.match(), due ? action : 4);
        Check.same(name + ", datum after it", t.datum(), due ? 7 : 6);
    }

    private static void anyPriorityAndDatum() {
        int[] priorities = {Integer.MIN_VALUE, -1, 0, 1, Integer.MAX_VALUE};
        long[] data = {Long.MIN_VALUE, -1L, 0L, 1L, 1L << 32, Long.MAX_VALUE};
        for (int kind = 0; kind <= 2; kind++) {
            for (int priority : priorities) {
                for (long datum : data) {
                    WayTables t = Tables.withKeys(8, kind);
                    t.make(1, 1, 0);
                    Check.yes("priority " + priority, Tables.insert(t, 1, -1, priority, 0, datum));
                    Check.same("the action 0", t.match(), 0);
                    Check.same("the datum", t.datum(), datum);
                    t.change(7, ~datum);
                    t.match();
                    Check.same("the changed datum", t.datum(), ~datum);
                }
            }
        }
    }
}
