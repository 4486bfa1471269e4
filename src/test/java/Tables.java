/** Tables that several tests begin with. */
final class Tables {
    static final int EXACT = 0;
    static final int PREFIX = 1;
    static final int MASKED = 2;

    private Tables() {
    }

    static WayTables withKeys(int width, int... kinds) {
        WayTables t = new WayTables();
        for (int kind : kinds) {
            t.key(width, kind);
        }
        return t;
    }

    /** One exact key of 8 bits: values below N lie in the bucket of their own number. */
    static WayTables hashed(int n, int w, int s) {
        WayTables t = withKeys(8, EXACT);
        t.make(n, w, s);
        return t;
    }

    static WayTables prefixed(int n) {
        WayTables t = withKeys(8, PREFIX);
        t.make(n, 0, 0);
        return t;
    }

    static WayTables masked(int n) {
        WayTables t = withKeys(8, MASKED);
        t.make(n, 0, 0);
        return t;
    }

    static boolean insert(WayTables t, long value, long mask, int priority, int action, long datum) {
        t.set(0, value, mask);
        return t.insert(priority, action, datum);
    }

    static int match(WayTables t, long value) {
        t.set(0, value, 0L);
        return t.match();
    }

    static int bucket(WayTables t, long value) {
        t.set(0, value, 0L);
        return t.bucket();
    }
}
