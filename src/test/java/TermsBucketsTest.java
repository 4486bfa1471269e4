import java.math.BigInteger;

/**
 * Terms: "HASHED: H is 0, then for each key with v: H = 31 H + (v ^ v >>> 32 ^ v >>> 17), 64 bits that run
 * over; the BUCKET is (H ^ H >>> 20 ^ H >>> 7) modulo N."
 */
public final class TermsBucketsTest {
    private static final BigInteger ROUND = BigInteger.ONE.shiftLeft(64);
    private static final long[] EDGES = {
        0L, 1L, -1L, Long.MAX_VALUE, Long.MIN_VALUE, 0xFFFFFFFFL, 0xFFFFFFFF00000000L, 0x0842108421084211L, 0xDEADBEEFCAFEBABEL
    };

    public static void main(String[] args) {
        everyBitOfOneKey();
        noneIsBelowZero();
        whatRunsOver();
        theOrderOfKeysCounts();
        oneBucket();
        masksDoNotCount();
        Check.end();
    }

    private static WayTables wide(int n, int keys) {
        WayTables t = Tables.withKeys(64, new int[keys]);
        t.make(n, 1, 0);
        return t;
    }

    private static BigInteger unsigned(long v) {
        return BigInteger.valueOf(v).mod(ROUND);
    }

    /** The document's words in numbers without an end; whether they are cut to 64 bits is asked for. */
    private static BigInteger dueHash(boolean cut, long... values) {
        BigInteger h = BigInteger.ZERO;
        for (long value : values) {
            BigInteger v = unsigned(value);
            h = h.multiply(BigInteger.valueOf(31)).add(v.xor(v.shiftRight(32)).xor(v.shiftRight(17)));
            h = cut ? h.mod(ROUND) : h;
        }
        return h;
    }

    private static int dueBucket(int n, long... values) {
        BigInteger h = dueHash(true, values);
        return h.xor(h.shiftRight(20)).xor(h.shiftRight(7)).mod(BigInteger.valueOf(n)).intValue();
    }

    private static void isDue(WayTables t, int n, long... values) {
        for (int k = 0; k < values.length; k++) {
            t.set(k, values[k], -1);
        }
        Check.same("bucket of " + java.util.Arrays.toString(values) + " in " + n, t.bucket(), dueBucket(n, values));
    }

    private static void everyBitOfOneKey() {
        for (int n = 1; n <= 16; n *= 2) {
            WayTables t = wide(n, 1);
            for (int bit = 0; bit < 64; bit++) {
                isDue(t, n, 1L << bit);
                isDue(t, n, -1L << bit);
            }
        }
        Check.same("bit 3 is the last of 16 by itself", dueBucket(16, 8), 8);
        Check.same("bit 4 is the first that is none", dueBucket(16, 16), 0);
        WayTables t = wide(16, 1);
        Check.same("bit 3", Tables.bucket(t, 8), 8);
        Check.same("bit 4", Tables.bucket(t, 16), 0);
        Check.same("bit 7 comes down by 7", Tables.bucket(t, 128), 1);
        Check.same("bit 20 comes down by 20, and by 17", Tables.bucket(t, 1L << 20), 9);
        Check.same("bit 63 does not come down", Tables.bucket(t, Long.MIN_VALUE), dueBucket(16, Long.MIN_VALUE));
    }

    private static void noneIsBelowZero() {
        for (int n = 1; n <= 16; n *= 2) {
            for (int keys = 1; keys <= 4; keys++) {
                WayTables t = wide(n, keys);
                for (long v : EDGES) {
                    for (int k = 0; k < keys; k++) {
                        t.set(k, v, 0);
                    }
                    int b = t.bucket();
                    Check.yes("bucket " + b + " of " + n, b >= 0 && b < n);
                }
            }
        }
    }

    /** Each case is one whose H would go beyond 64 bits, or beyond the greatest long. */
    private static void whatRunsOver() {
        int over = 0;
        for (int keys = 2; keys <= 4; keys++) {
            for (long a : EDGES) {
                WayTables t = wide(16, keys);
                for (long b : EDGES) {
                    long[] values = new long[keys];
                    java.util.Arrays.fill(values, b);
                    values[0] = a;
                    isDue(t, 16, values);
                    over += dueHash(false, values).compareTo(ROUND) >= 0 ? 1 : 0;
                }
            }
        }
        Check.yes("many of them run over", over > 100);
        WayTables t = wide(8, 1);
        isDue(t, 8, Long.MIN_VALUE);
        isDue(t, 8, Long.MAX_VALUE);
    }

    private static void theOrderOfKeysCounts() {
        WayTables t = wide(16, 2);
        isDue(t, 16, 1, 0);
        Check.same("1 then 0", t.bucket(), 15);
        isDue(t, 16, 0, 1);
        Check.same("0 then 1", t.bucket(), 1);
        WayTables four = wide(16, 4);
        isDue(four, 16, 1, 0, 0, 0);
        isDue(four, 16, 0, 1, 0, 0);
        isDue(four, 16, 0, 0, 1, 0);
        isDue(four, 16, 0, 0, 0, 1);
    }

    private static void oneBucket() {
        WayTables t = wide(1, 4);
        for (long v : EDGES) {
            for (int k = 0; k < 4; k++) {
                t.set(k, v, v);
            }
            Check.same("the only bucket, " + v, t.bucket(), 0);
        }
    }

    private static void masksDoNotCount() {
        WayTables t = wide(16, 2);
        for (long mask : EDGES) {
            t.set(0, 5, mask);
            t.set(1, 9, ~mask);
            Check.same("mask " + mask, t.bucket(), dueBucket(16, 5, 9));
        }
    }
}
