import java.util.function.Consumer;
import java.util.function.Supplier;

/** A call that is refused, by an exception or by false, leaves all as it was. */
public final class RefusedCallsTest {
    private static final int LEAST = Integer.MIN_VALUE;
    private static final int MOST = Integer.MAX_VALUE;

    private final String state;
    private final Supplier<WayTables> build;

    private RefusedCallsTest(String state, Supplier<WayTables> build) {
        this.state = state;
        this.build = build;
    }

    public static void main(String[] args) {
        aNewObject();
        anExactKey();
        aPrefixKey();
        aMaskedKey();
        fourKeys();
        new RefusedCallsTest("a full hashed table", RefusedCallsTest::fullHashed).inATable();
        new RefusedCallsTest("a full prefix table", () -> fullListed(Tables.PREFIX)).inATable();
        new RefusedCallsTest("a full masked table", () -> fullListed(Tables.MASKED)).inATable();
        anEmptyTable();
        wrongMasks();
        Check.end();
    }

    /** All four are set, those of keys that are not there too. */
    private static WayTables withValues(WayTables t) {
        for (int i = 0; i < 4; i++) {
            t.set(i, 2 + i, -1);
        }
        return t;
    }

    private static WayTables found(WayTables t) {
        t.match();
        return t;
    }

    /** Buckets of one way: 0 and 2 in the first, 1 in the second, and one may be above. */
    private static WayTables fullHashed() {
        WayTables t = Tables.hashed(2, 1, 1);
        for (int v = 0; v < 3; v++) {
            Tables.insert(t, v, -1, v, v + 1, 10 * v + 10);
        }
        return found(withValues(t));
    }

    private static WayTables fullListed(int kind) {
        WayTables t = Tables.withKeys(8, kind);
        t.make(3, 0, 0);
        Tables.insert(t, 0, 0, 5, 1, 10);
        Tables.insert(t, 2, -1, 6, 2, 20);
        Tables.insert(t, 128, 128, 7, 3, 30);
        return found(withValues(t));
    }

    private void leavesAll(String call, Consumer<WayTables> refused) {
        WayTables one = build.get();
        refused.accept(one);
        Twins.alike(state + " after " + call, one, build.get());
    }

    private void throwsArgument(String call, Consumer<WayTables> refused) {
        leavesAll(call, t -> Check.failsArgument(state + ": " + call, () -> refused.accept(t)));
    }

    private void throwsState(String call, Consumer<WayTables> refused) {
        leavesAll(call, t -> Check.failsState(state + ": " + call, () -> refused.accept(t)));
    }

    private void wrongKeys() {
        for (int width : new int[] {LEAST, -1, 0, 65, 128, MOST}) {
            throwsArgument("key(" + width + ", 0)", t -> t.key(width, 0));
        }
        for (int kind : new int[] {LEAST, -1, 3, MOST}) {
            throwsArgument("key(8, " + kind + ")", t -> t.key(8, kind));
        }
    }

    private void wrongIndexes() {
        for (int i : new int[] {LEAST, -1, 4, MOST}) {
            String call = "set(" + i + ", 1, 1)";
            leavesAll(call, t -> Check.failsIndex(state + ": " + call, () -> t.set(i, 1, 1)));
        }
    }

    private void withoutATable() {
        wrongKeys();
        wrongIndexes();
        throwsState("insert", t -> t.insert(0, 1, 1));
        throwsState("a wrong insert", t -> t.insert(0, 8, 1));
        throwsState("change", t -> t.change(1, 1));
        throwsState("a wrong change", t -> t.change(-1, 1));
        throwsState("remove", WayTables::remove);
        throwsState("match", WayTables::match);
    }

    private static void aNewObject() {
        RefusedCallsTest bare = new RefusedCallsTest("a new object", WayTables::new);
        bare.withoutATable();
        bare.throwsState("make", t -> t.make(1, 1, 0));
        bare.throwsState("a wrong make", t -> t.make(0, 0, -1));
        new RefusedCallsTest("a new object with values", () -> withValues(new WayTables())).withoutATable();
    }

    private static void anExactKey() {
        RefusedCallsTest test = new RefusedCallsTest("an exact key", () -> withValues(Tables.withKeys(8, 0)));
        test.withoutATable();
        for (int n : new int[] {LEAST, -1, 0, 3, 15, 17, 32, 1 << 30, MOST}) {
            test.throwsArgument("make(" + n + ", 1, 0)", t -> t.make(n, 1, 0));
        }
        for (int w : new int[] {LEAST, -1, 0, 5, MOST}) {
            test.throwsArgument("make(1, " + w + ", 0)", t -> t.make(1, w, 0));
        }
        for (int s : new int[] {LEAST, -1, 9, MOST}) {
            test.throwsArgument("make(1, 1, " + s + ")", t -> t.make(1, 1, s));
        }
    }

    private void wrongListedMakes() {
        for (int n : new int[] {LEAST, -1, 0, 33, 64, MOST}) {
            throwsArgument("make(" + n + ", 1, 0)", t -> t.make(n, 1, 0));
        }
    }

    private static void aPrefixKey() {
        RefusedCallsTest test = new RefusedCallsTest("a prefix key", () -> withValues(Tables.withKeys(8, 1)));
        test.withoutATable();
        test.wrongListedMakes();
        test.throwsArgument("a second prefix key", t -> t.key(8, 1));
        test.throwsArgument("a masked key", t -> t.key(8, 2));
    }

    private static void aMaskedKey() {
        RefusedCallsTest test = new RefusedCallsTest("a masked key", () -> withValues(Tables.withKeys(8, 2)));
        test.withoutATable();
        test.wrongListedMakes();
        test.throwsArgument("a prefix key", t -> t.key(8, 1));
    }

    private static void fourKeys() {
        RefusedCallsTest test = new RefusedCallsTest("four keys", () -> withValues(Tables.withKeys(8, 0, 0, 0, 0)));
        test.withoutATable();
        test.throwsState("a fifth key", t -> t.key(8, 0));
        test.throwsState("a fifth key of another kind", t -> t.key(8, 2));
        test.throwsArgument("make(3, 1, 0)", t -> t.make(3, 1, 0));
        RefusedCallsTest mixed = new RefusedCallsTest("a prefix and three", () -> withValues(Tables.withKeys(8, 1, 0, 0, 0)));
        mixed.wrongKeys();
        mixed.throwsState("a fifth key that may not be", t -> t.key(8, 1));
    }

    private void inATable() {
        wrongKeys();
        wrongIndexes();
        throwsState("a key", t -> t.key(8, 0));
        throwsState("a key that may not be", t -> t.key(8, 1));
        throwsState("make", t -> t.make(2, 1, 1));
        throwsState("a wrong make", t -> t.make(0, 0, -1));
        leavesAll("insert of one that is there", t -> Check.no(state, t.insert(9, 7, 70)));
        for (int action : new int[] {LEAST, -1, 8, MOST}) {
            leavesAll("insert with action " + action, t -> Check.no(state, t.insert(9, action, 70)));
            leavesAll("change to action " + action, t -> Check.no(state, t.change(action, 70)));
        }
        inATableForAnotherValue();
    }

    private void inATableForAnotherValue() {
        RefusedCallsTest other = new RefusedCallsTest(state + ", another value set", () -> {
            WayTables t = build.get();
            t.set(0, 4, -1);
            return t;
        });
        other.leavesAll("insert without room", t -> Check.no(state + ", no room", t.insert(9, 7, 70)));
        other.leavesAll("change of none", t -> Check.no(state + ", change of none", t.change(7, 70)));
        other.leavesAll("remove of none", t -> Check.no(state + ", remove of none", t.remove()));
    }

    private static void anEmptyTable() {
        for (int kind = 0; kind <= 2; kind++) {
            int[] one = {kind};
            RefusedCallsTest test = new RefusedCallsTest("an empty table of kind " + kind, () -> {
                WayTables t = withValues(Tables.withKeys(8, one));
                t.make(2, 1, 1);
                return t;
            });
            test.leavesAll("change of none", t -> Check.no(test.state, t.change(7, 70)));
            test.leavesAll("remove of none", t -> Check.no(test.state, t.remove()));
            test.leavesAll("insert with action 8", t -> Check.no(test.state, t.insert(0, 8, 70)));
        }
    }

    private static void wrongMasks() {
        for (long mask : new long[] {0, 1, 0x7F, 0xFE, ~0xFFL}) {
            wrongMask("exact", RefusedCallsTest::fullHashed, mask);
        }
        for (long mask : new long[] {1, 0x7F, 0xBF, 0xFD}) {
            wrongMask("prefix", () -> fullListed(Tables.PREFIX), mask);
        }
    }

    /** One entry goes first, so that it is not for want of room that the insert is refused. */
    private static void wrongMask(String kind, Supplier<WayTables> full, long mask) {
        RefusedCallsTest test = new RefusedCallsTest(kind + " with mask " + mask, () -> {
            WayTables t = full.get();
            t.remove();
            t.set(0, 1, mask);
            return t;
        });
        test.leavesAll("insert", t -> Check.no(test.state + ": insert", t.insert(0, 7, 70)));
        test.leavesAll("change", t -> Check.no(test.state + ": change", t.change(7, 70)));
        test.leavesAll("remove", t -> Check.no(test.state + ": remove", t.remove()));
    }
}
