import java.math.BigInteger;

/** Promise 11: bucket. */
public final class BucketTest {
    private static final BigInteger ROUND = BigInteger.ONE.shiftLeft(64);
    private static final long[] VALUES = {
        0L, 1L, 2L, 3L, 7L, 255L, 256L, 65535L, 131072L, 1L << 20, 1L << 31, 1L << 32, 0x123456789ABCDEFL,
        -1L, -2L, Long.MIN_VALUE, Long.MAX_VALUE, 0xDEADBEEFCAFEBABEL, 1000003L, -1000003L
    };

    public static void main(String[] args) {
        withoutAHashedTable();
        knownBuckets();
        theLastBucket();
        entriesDoNotMove();
        for (int n = 1; n <= 16; n *= 2) {
            oneKey(n, 64);
            oneKey(n, 33);
            oneKey(n, 8);
            twoKeys(n);
        }
        keysThatAreNotThere();
        Check.end();
    }

    private static void withoutAHashedTable() {
        WayTables t = Tables.withKeys(8, 0);
        Check.same("before make", t.bucket(), WayTables.NONE);
        Check.same("with a prefix", Tables.bucket(Tables.prefixed(4), 1), WayTables.NONE);
        Check.same("with a mask", Tables.bucket(Tables.masked(4), 1), WayTables.NONE);
        Check.same("of a new object", Tables.bucket(new WayTables(), 1), WayTables.NONE);
        Check.failsArgument("a wrong make", () -> t.make(16, 5, 0));
        Check.same("after a wrong make", Tables.bucket(t, 1), WayTables.NONE);
        t.make(16, 4, 0);
        Check.same("after make", t.bucket(), 1);
        t.clear();
        Check.same("after clear", Tables.bucket(t, 1), WayTables.NONE);
        t.key(8, 2);
        t.make(16, 4, 0);
        Check.same("when the next table is not hashed", t.bucket(), WayTables.NONE);
    }

    private static void theLastBucket() {
        for (int n = 1; n <= 16; n *= 2) {
            WayTables t = Tables.hashed(n, 1, 0);
            Check.same("the last of " + n, Tables.bucket(t, n - 1), n - 1);
            Check.same("round to the first of " + n, Tables.bucket(t, n), 0);
        }
    }

    private static void entriesDoNotMove() {
        WayTables t = Tables.hashed(4, 1, 2);
        for (int turn = 0; turn < 4; turn++) {
            Tables.insert(t, 3 + 4 * turn, -1, 0, 1, 1);
            Check.same("the bucket, full or above or without room", t.bucket(), 3);
        }
        t.remove();
        Check.same("the bucket of one that is not there", t.bucket(), 3);
    }

    private static void knownBuckets() {
        WayTables t = Tables.hashed(16, 1, 0);
        for (int v = 0; v < 16; v++) {
            Check.same("bucket of " + v, Tables.bucket(t, v), v);
        }
        Check.same("bucket of 128", Tables.bucket(t, 128), 1);
        Check.same("bucket of 256, cut", Tables.bucket(t, 256), 0);
        WayTables wide = Tables.withKeys(64, 0);
        wide.make(16, 1, 0);
        Check.same("bucket of 2 to the 17th", Tables.bucket(wide, 1L << 17), 1);
        Check.same("bucket of 2 to the 32nd", Tables.bucket(wide, 1L << 32), 1);
        Check.same("bucket of 2 to the 20th", Tables.bucket(wide, 1L << 20), 9);
    }

    /** The document's words, in numbers without an end and cut to 64 bits by hand. */
    private static int dueBucket(int n, BigInteger... cut) {
        BigInteger h = BigInteger.ZERO;
        for (BigInteger v : cut) {
            BigInteger mixed = v.xor(v.shiftRight(32)).xor(v.shiftRight(17));
            h = h.multiply(BigInteger.valueOf(31)).add(mixed).mod(ROUND);
        }
        return h.xor(h.shiftRight(20)).xor(h.shiftRight(7)).mod(BigInteger.valueOf(n)).intValue();
    }

    private static BigInteger cut(long value, int width) {
        return BigInteger.valueOf(value).mod(BigInteger.ONE.shiftLeft(width));
    }

    private static void oneKey(int n, int width) {
        WayTables t = Tables.withKeys(width, 0);
        t.make(n, 1, 0);
        for (long v : VALUES) {
            Check.same("n " + n + ", width " + width + ", " + v, Tables.bucket(t, v), dueBucket(n, cut(v, width)));
        }
    }

    private static void twoKeys(int n) {
        for (long a : VALUES) {
            WayTables t = new WayTables();
            t.key(64, 0);
            t.key(40, 0);
            t.make(n, 1, 0);
            for (long b : VALUES) {
                t.set(0, a, 0);
                t.set(1, b, 0);
                Check.same("n " + n + ", " + a + ", " + b, t.bucket(), dueBucket(n, cut(a, 64), cut(b, 40)));
            }
        }
    }

    private static void keysThatAreNotThere() {
        WayTables t = Tables.hashed(16, 1, 0);
        t.set(0, 5, 0);
        t.set(1, 77, -1);
        t.set(3, 99, -1);
        Check.same("keys that are not there do not count", t.bucket(), 5);
    }
}
