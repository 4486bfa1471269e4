/**
 * Terms: "KEYS, 1 to 4, have a width of 1 to 64 bits and a KIND: 0 exact, 1 prefix, 2 masked
 * (prefix once, and not with masked)."
 */
public final class TermsKeysTest {
    public static void main(String[] args) {
        oneToFour();
        widthsOneToSixtyFour();
        kindsZeroToTwo();
        prefixOnce();
        prefixNotWithMasked();
        exactWithAll();
        for (int width = 1; width <= 64; width++) {
            valuesAreCut(width);
        }
        Check.end();
    }

    private static void oneToFour() {
        for (int kind = 0; kind <= 2; kind++) {
            WayTables none = new WayTables();
            Check.failsState("a table without a key", () -> none.make(1, 1, 0));
            for (int keys = 1; keys <= 4; keys++) {
                WayTables t = new WayTables();
                Check.same("the first key", t.key(8, kind), 0);
                for (int k = 1; k < keys; k++) {
                    Check.same("key " + k, t.key(8, kind == 1 ? 0 : kind), k);
                }
                t.make(1, 1, 0);
                Check.same("keys of the table", t.count(2), keys);
                Check.same("its entries", t.count(0), 0);
            }
        }
        WayTables four = Tables.withKeys(8, 0, 0, 0, 0);
        Check.failsState("a fifth key", () -> four.key(8, 0));
        Check.same("keys after a fifth", four.count(2), 4);
    }

    private static void widthsOneToSixtyFour() {
        for (int width = -70; width <= 200; width++) {
            int asked = width;
            for (int kind = 0; kind <= 2; kind++) {
                int asKind = kind;
                WayTables t = new WayTables();
                if (width >= 1 && width <= 64) {
                    Check.same("width " + width, t.key(width, kind), 0);
                } else {
                    Check.failsArgument("width " + width, () -> t.key(asked, asKind));
                    Check.same("keys after width " + width, t.count(2), 0);
                }
            }
        }
    }

    private static void kindsZeroToTwo() {
        for (int kind = -5; kind <= 70; kind++) {
            int asked = kind;
            WayTables t = new WayTables();
            if (kind >= 0 && kind <= 2) {
                Check.same("kind " + kind, t.key(1, kind), 0);
            } else {
                Check.failsArgument("kind " + kind, () -> t.key(1, asked));
                Check.same("keys after kind " + kind, t.count(2), 0);
            }
        }
    }

    private static void prefixOnce() {
        for (int at = 0; at < 3; at++) {
            WayTables t = new WayTables();
            for (int k = 0; k <= at; k++) {
                t.key(8, k == at ? 1 : 0);
            }
            Check.failsArgument("a second prefix after key " + at, () -> t.key(8, 1));
            t.key(8, 0);
            if (at < 2) {
                Check.failsArgument("a second prefix later, first at " + at, () -> t.key(8, 1));
            }
        }
        WayTables last = Tables.withKeys(8, 0, 0, 0);
        Check.same("a prefix as the last of four", last.key(8, 1), 3);
    }

    private static void prefixNotWithMasked() {
        WayTables prefix = Tables.withKeys(8, 1, 0);
        Check.failsArgument("masked behind prefix and exact", () -> prefix.key(8, 2));
        WayTables masked = Tables.withKeys(8, 2, 0);
        Check.failsArgument("prefix behind masked and exact", () -> masked.key(8, 1));
        WayTables behind = Tables.withKeys(8, 0, 2);
        Check.failsArgument("prefix behind exact and masked", () -> behind.key(8, 1));
        Check.same("masked behind it", behind.key(8, 2), 2);
        WayTables cleared = Tables.withKeys(8, 2);
        cleared.clear();
        Check.same("prefix when the masked one is gone", cleared.key(8, 1), 0);
    }

    private static void exactWithAll() {
        Check.same("exact with prefix", Tables.withKeys(8, 1).key(8, 0), 1);
        Check.same("exact with masked", Tables.withKeys(8, 2, 2, 2).key(8, 0), 3);
        Check.same("masked four times", Tables.withKeys(8, 2, 2, 2).key(8, 2), 3);
        Check.same("exact four times", Tables.withKeys(8, 0, 0, 0).key(8, 0), 3);
    }

    private static void valuesAreCut(int width) {
        long top = 1L << (width - 1);
        for (int kind = 0; kind <= 2; kind++) {
            WayTables t = Tables.withKeys(width, kind);
            t.make(1, 1, 0);
            Tables.insert(t, top, -1, 0, 3, 30);
            String name = "width " + width + ", kind " + kind;
            Check.same(name + ": the top bit", Tables.match(t, top), 3);
            Check.same(name + ": without the top bit", Tables.match(t, 0), WayTables.NONE);
            if (width > 1) {
                Check.same(name + ": one more bit", Tables.match(t, top | 1), WayTables.NONE);
            }
            if (width < 64) {
                Check.same(name + ": a bit above", Tables.match(t, top | top << 1), 3);
                Check.same(name + ": the bit above alone", Tables.match(t, top << 1), WayTables.NONE);
                Check.same(name + ": all bits above", Tables.match(t, -top), 3);
            }
        }
    }
}
