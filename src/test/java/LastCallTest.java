/** "An object is used for at most 512 calls after it has been made": the 512th still answers as is due. */
public final class LastCallTest {
    private static final int CALLS = 512;

    public static void main(String[] args) {
        for (int kind = 0; kind <= 2; kind++) {
            comingAndGoing(kind);
        }
        clearingAgainAndAgain();
        theGreatestTableFilledLast();
        Check.end();
    }

    private static void comingAndGoing(int kind) {
        WayTables t = Tables.withKeys(8, kind);
        t.make(1, 1, 0);
        t.set(0, 1, -1);
        for (int call = 3; call + 3 <= CALLS; call += 2) {
            Check.yes("insert", t.insert(0, 1, call));
            Check.yes("remove", t.remove());
        }
        Check.same("match, the 512th call", t.match(), WayTables.NONE);
    }

    private static void clearingAgainAndAgain() {
        WayTables t = new WayTables();
        for (int call = 0; call + 4 <= CALLS; call += 4) {
            Check.same("key", t.key(8, call / 4 % 3), 0);
            t.make(1, 1, 0);
            t.clear();
            Check.same("count(2), the 512th call at last", t.count(2), 0);
        }
    }

    /** Two calls make it, 183 pairs are refused for their masks, and 72 pairs fill it to the end. */
    private static void theGreatestTableFilledLast() {
        WayTables t = Tables.hashed(16, 4, 8);
        for (int turn = 0; turn < 183; turn++) {
            Check.no("an entry without a mask", Tables.insert(t, turn, 0, 0, 1, 1));
        }
        for (int v = 0; v < 71; v++) {
            Check.yes("entry " + v, Tables.insert(t, v, -1, 0, 1, v));
        }
        Check.same("the 511th call sets, the 512th inserts", Tables.insert(t, 71, -1, 0, 1, 71) ? 1 : 0, 1);
    }
}
