/** Promise 3: key. */
public final class KeyTest {
    public static void main(String[] args) {
        numbersCountUp();
        widthsAndKinds();
        whatMayNotBeTogether();
        fourAtMost();
        notInAMadeTable();
        whichExceptionComesFirst();
        numbersBeginAnew();
        Check.end();
    }

    private static void numbersCountUp() {
        WayTables t = new WayTables();
        Check.same("first key", t.key(1, 0), 0);
        Check.same("second key", t.key(64, 1), 1);
        Check.same("third key", t.key(33, 0), 2);
        Check.same("fourth key", t.key(8, 0), 3);
        Check.same("count(2)", t.count(2), 4);
    }

    private static void widthsAndKinds() {
        WayTables t = new WayTables();
        int[] widths = {0, 65, -1, Integer.MIN_VALUE, Integer.MAX_VALUE};
        for (int width : widths) {
            Check.failsArgument("key(" + width + ", 0)", () -> t.key(width, 0));
        }
        int[] kinds = {-1, 3, Integer.MIN_VALUE, Integer.MAX_VALUE};
        for (int kind : kinds) {
            Check.failsArgument("key(8, " + kind + ")", () -> t.key(8, kind));
        }
        Check.same("count(2) after wrong keys", t.count(2), 0);
    }

    private static void whatMayNotBeTogether() {
        WayTables prefix = Tables.withKeys(8, 0, 1);
        Check.failsArgument("prefix with prefix", () -> prefix.key(8, 1));
        Check.failsArgument("masked with prefix", () -> prefix.key(8, 2));
        Check.same("exact with prefix", prefix.key(8, 0), 2);
        WayTables masked = Tables.withKeys(8, 2);
        Check.failsArgument("prefix with masked", () -> masked.key(8, 1));
        Check.same("masked with masked", masked.key(8, 2), 1);
        Check.same("exact with masked", masked.key(8, 0), 2);
        Check.same("masked again", masked.key(8, 2), 3);
    }

    private static void fourAtMost() {
        WayTables t = Tables.withKeys(8, 0, 0, 0, 0);
        Check.failsState("a fifth key", () -> t.key(8, 0));
        Check.failsArgument("a fifth key without such a width", () -> t.key(0, 0));
        Check.failsArgument("a fifth key without such a kind", () -> t.key(8, 3));
        WayTables p = Tables.withKeys(8, 1, 0, 0, 0);
        Check.failsState("a fifth key that may not be", () -> p.key(8, 1));
        Check.failsState("a fifth masked key with a prefix", () -> p.key(8, 2));
        Check.same("count(2)", p.count(2), 4);
    }

    /** "The width and KIND first, then this, then what may not be." */
    private static void whichExceptionComesFirst() {
        int[] full = {1, 0, 0, 0};
        WayTables four = Tables.withKeys(8, full);
        WayTables made = Tables.withKeys(8, 1);
        made.make(1, 0, 0);
        WayTables both = Tables.withKeys(8, full);
        both.make(1, 0, 0);
        for (WayTables t : new WayTables[] {four, made, both}) {
            for (int width : new int[] {Integer.MIN_VALUE, 0, 65, Integer.MAX_VALUE}) {
                for (int kind = 0; kind <= 2; kind++) {
                    int asked = kind;
                    Check.failsArgument("width " + width + " before the state", () -> t.key(width, asked));
                }
            }
            for (int kind : new int[] {Integer.MIN_VALUE, -1, 3, Integer.MAX_VALUE}) {
                Check.failsArgument("kind " + kind + " before the state", () -> t.key(1, kind));
                Check.failsArgument("kind " + kind + " before the state", () -> t.key(64, kind));
            }
            for (int kind = 0; kind <= 2; kind++) {
                int asked = kind;
                Check.failsState("the state before what may not be, kind " + kind, () -> t.key(1, asked));
                Check.failsState("the state before what may not be, kind " + kind, () -> t.key(64, asked));
            }
        }
    }

    private static void numbersBeginAnew() {
        WayTables t = Tables.withKeys(8, 1, 0, 0, 0);
        t.make(1, 0, 0);
        t.clear();
        for (int k = 0; k < 4; k++) {
            Check.same("key after clear", t.key(8, 2), k);
        }
        WayTables gaps = new WayTables();
        for (int k = 0; k < 4; k++) {
            Check.failsArgument("a wrong key", () -> gaps.key(0, 0));
            Check.same("a wrong key takes no number", gaps.key(8, 0), k);
        }
    }

    private static void notInAMadeTable() {
        WayTables t = Tables.prefixed(1);
        Check.failsState("a key in a made table", () -> t.key(8, 0));
        Check.failsState("one that may not be in a made table", () -> t.key(8, 2));
        Check.failsArgument("no such width in a made table", () -> t.key(65, 0));
        Check.failsArgument("no such kind in a made table", () -> t.key(8, -1));
        Check.same("count(2)", t.count(2), 1);
    }
}
