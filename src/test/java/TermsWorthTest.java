/**
 * Terms: "It MATCHES where the masks have ones; of several that with more ones in the prefix mask, then
 * of greater priority, then the first to come."
 */
public final class TermsWorthTest {
    private static final int LEAST = Integer.MIN_VALUE;
    private static final int MOST = Integer.MAX_VALUE;

    public static void main(String[] args) {
        everyKeyMustMatch();
        everyPrefixLength();
        onesBeforePriority();
        onesOfThePrefixAlone();
        greaterPriority();
        theFirstToCome();
        aFullTable();
        Check.end();
    }

    private static void everyKeyMustMatch() {
        int[][] tables = {{0, 0, 0, 0}, {1, 0, 0, 0}, {0, 0, 0, 1}, {2, 2, 2, 2}, {0, 2, 0, 2}};
        for (int[] kinds : tables) {
            WayTables t = Tables.withKeys(8, kinds);
            t.make(1, 1, 0);
            for (int i = 0; i < 4; i++) {
                t.set(i, 10 + i, -1);
            }
            t.insert(0, 5, 50);
            Check.same("all four", t.match(), 5);
            for (int i = 0; i < 4; i++) {
                t.set(i, 11 + i, -1);
                Check.same("all but key " + i, t.match(), WayTables.NONE);
                t.set(i, 10 + i, -1);
            }
        }
    }

    /** Prefixes of 0 to 31 ones are there; a value with one other bit matches only those above that bit. */
    private static void everyPrefixLength() {
        WayTables t = Tables.withKeys(32, 1);
        t.make(32, 0, 0);
        for (int ones = 0; ones < 32; ones++) {
            long mask = 0xFFFFFFFFL << (32 - ones) & 0xFFFFFFFFL;
            Check.yes("prefix of " + ones, Tables.insert(t, 0xFFFFFFFFL, mask, -ones, ones & 7, ones));
        }
        for (int bit = 0; bit < 32; bit++) {
            Check.same("the bit " + bit + " is another", Tables.match(t, ~(1L << bit)), 31 - bit & 7);
            Check.same("its datum", t.datum(), 31 - bit);
        }
        Check.same("all bits", Tables.match(t, -1), 31 & 7);
        Check.same("no prefix but the empty one", Tables.match(t, 0), 0);
        Check.same("its datum", t.datum(), 0);
    }

    private static void onesBeforePriority() {
        long[][] masks = {{0L, Long.MIN_VALUE}, {-1L << 1, -1L}, {Long.MIN_VALUE, -1L}, {0L, -1L}, {-1L << 32, -1L << 31}};
        for (long[] pair : masks) {
            for (int first = 0; first <= 1; first++) {
                WayTables t = Tables.withKeys(64, 1);
                t.make(2, 0, 0);
                for (int turn = 0; turn <= 1; turn++) {
                    int which = turn ^ first;
                    Tables.insert(t, -1, pair[which], which == 0 ? MOST : LEAST, which, which);
                }
                Check.same("more ones, whatever the priority and turn", Tables.match(t, -1), 1);
                t.set(0, -1, pair[1]);
                t.remove();
                Check.same("the other when it is gone", Tables.match(t, -1), 0);
            }
        }
    }

    private static void onesOfThePrefixAlone() {
        WayTables masked = Tables.masked(3);
        Tables.insert(masked, 0, 0, 0, 1, 10);
        Tables.insert(masked, 0xFF, 0xFF, 0, 2, 20);
        Check.same("the first, though without ones", Tables.match(masked, 0xFF), 1);
        Tables.insert(masked, 0xFF, 0x01, 1, 3, 30);
        Check.same("the greater priority, though of one bit", Tables.match(masked, 0xFF), 3);
        WayTables wide = new WayTables();
        wide.key(64, 2);
        wide.key(1, 0);
        wide.make(2, 0, 0);
        wide.set(1, 1, -1);
        Tables.insert(wide, -1, 1, 0, 1, 10);
        Tables.insert(wide, -1, -1, 0, 2, 20);
        Check.same("the ones of a masked key beside an exact one", Tables.match(wide, -1), 1);
    }

    private static void greaterPriority() {
        int[][] pairs = {
            {LEAST, LEAST + 1}, {MOST - 1, MOST}, {-1, 0}, {0, 1}, {-2, -1}, {LEAST, MOST}, {LEAST, 0}, {-1, MOST}, {LEAST, 1}
        };
        for (int[] pair : pairs) {
            for (int first = 0; first <= 1; first++) {
                WayTables t = Tables.masked(2);
                Tables.insert(t, 1, 1, pair[first], first, 10);
                Tables.insert(t, 2, 2, pair[1 - first], 1 - first, 20);
                Check.same(pair[1] + " before " + pair[0], Tables.match(t, 3), 1);
                Check.same("the lesser alone", Tables.match(t, first == 0 ? 1 : 2), 0);
            }
        }
    }

    private static void theFirstToCome() {
        for (int priority : new int[] {LEAST, -1, 0, 1, MOST}) {
            WayTables t = Tables.masked(8);
            for (int i = 0; i < 8; i++) {
                Tables.insert(t, 1 << i, 1 << i, priority, i, i);
            }
            for (int gone = 0; gone < 8; gone++) {
                Check.same("the first of those there", Tables.match(t, 0xFF), gone);
                t.set(0, 1 << gone, 1 << gone);
                t.remove();
            }
            Check.same("none is there", Tables.match(t, 0xFF), WayTables.NONE);
        }
    }

    private static void aFullTable() {
        WayTables t = Tables.masked(32);
        for (int i = 0; i < 32; i++) {
            Tables.insert(t, i, i, i == 31 ? 1 : 0, i & 7, i);
        }
        Check.same("the last of a full table", Tables.match(t, 0xFF), 7);
        Check.same("its datum", t.datum(), 31);
        Check.same("the first of a full table", Tables.match(t, 0x0F), 0);
        Check.same("its datum", t.datum(), 0);
    }
}
