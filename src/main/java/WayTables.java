import java.util.Arrays;

/**
 * A table of entries by up to four keys: exact ones in buckets of so many ways with a stash,
 * others by prefixes or masks, of which the most worth matches.
 */
public final class WayTables {

    public static final int NONE = -1;

    private static final int EXACT = 0;
    private static final int PREFIX = 1;
    private static final int MASKED = 2;

    private static final int MOST_KEYS = 4;
    private static final int MOST_BITS = 64;
    private static final int MOST_BUCKETS = 16;
    private static final int MOST_WAYS = 4;
    private static final int MOST_STASHED = 8;
    private static final int MOST_LISTED = 32;
    private static final int MOST_ENTRIES = MOST_BUCKETS * MOST_WAYS + MOST_STASHED;
    private static final int LAST_ACTION = 7;

    private static final int COUNT_ENTRIES = 0;
    private static final int COUNT_ABOVE = 1;
    private static final int COUNT_KEYS = 2;
    private static final int COUNT_ROOM = 3;

    private final Keys keys = new Keys();
    private final Entries entries = new Entries();
    private final Buckets buckets = new Buckets();

    // Kept uncut, because set may come before the keys whose widths cut them.
    private final long[] askedValues = new long[MOST_KEYS];
    private final long[] askedMasks = new long[MOST_KEYS];

    private boolean made;
    private boolean hashed;
    private int capacity;
    private long latestDatum;

    public WayTables() {
    }

    public void clear() {
        keys.size = 0;
        entries.size = 0;
        buckets.lay(0, 0, 0);
        Arrays.fill(askedValues, 0L);
        Arrays.fill(askedMasks, 0L);
        made = false;
        hashed = false;
        capacity = 0;
        latestDatum = 0L;
    }

    public int key(int width, int kind) throws IllegalArgumentException, IllegalStateException {
        if (width < 1 || width > MOST_BITS || kind < EXACT || kind > MASKED) {
            throw new IllegalArgumentException("no such width or kind");
        }
        if (made || keys.size >= MOST_KEYS) {
            throw new IllegalStateException("the table is made or has four keys");
        }
        if (!keys.allow(kind)) {
            throw new IllegalArgumentException("the kind may not be with those that are there");
        }
        return keys.add(width, kind);
    }

    public void make(int n, int w, int s) throws IllegalArgumentException, IllegalStateException {
        if (made || keys.size == 0) {
            throw new IllegalStateException("the table is made or has no key");
        }
        boolean exact = keys.areExact();
        if (exact ? !isHashedShape(n, w, s) : !isListedShape(n)) {
            throw new IllegalArgumentException("no such table");
        }
        if (exact) {
            buckets.lay(n, w, s);
        }
        capacity = exact ? n * w + s : n;
        hashed = exact;
        made = true;
    }

    public void set(int i, long value, long mask) throws IndexOutOfBoundsException {
        if (i < 0 || i >= MOST_KEYS) {
            throw new IndexOutOfBoundsException("no such key");
        }
        askedValues[i] = value;
        askedMasks[i] = mask;
    }

    public boolean insert(int priority, int action, long datum) throws IllegalStateException {
        requireTable();
        if (!isAction(action) || !areMasksRight() || findAsked() != NONE || !hasRoom()) {
            return false;
        }
        addAsked(priority, action, datum);
        buckets.fill(bucket());
        return true;
    }

    public boolean change(int action, long datum) throws IllegalStateException {
        requireTable();
        int slot = findAsked();
        if (slot == NONE || !isAction(action)) {
            return false;
        }
        entries.actions[slot] = action;
        entries.data[slot] = datum;
        return true;
    }

    public boolean remove() throws IllegalStateException {
        requireTable();
        int slot = findAsked();
        if (slot == NONE) {
            return false;
        }
        entries.drop(slot);
        buckets.empty(bucket());
        return true;
    }

    public int match() throws IllegalStateException {
        requireTable();
        int best = NONE;
        for (int slot = 0; slot < entries.size; slot++) {
            if (fitsAsked(slot) && (best == NONE || entries.isWorthMore(slot, best))) {
                best = slot;
            }
        }
        latestDatum = best == NONE ? 0L : entries.data[best];
        return best == NONE ? NONE : entries.actions[best];
    }

    public long datum() {
        return latestDatum;
    }

    public int bucket() {
        if (!hashed) {
            return NONE;
        }
        long h = 0L;
        for (int k = 0; k < keys.size; k++) {
            long v = askedValues[k] & keys.ones[k];
            h = 31L * h + (v ^ v >>> 32 ^ v >>> 17);
        }
        return buckets.indexOf(h ^ h >>> 20 ^ h >>> 7);
    }

    public int count(int what) {
        if (what == COUNT_KEYS) {
            return keys.size;
        }
        if (!made) {
            return NONE;
        }
        switch (what) {
            case COUNT_ENTRIES:
                return entries.size;
            case COUNT_ABOVE:
                return buckets.above();
            case COUNT_ROOM:
                return capacity;
            default:
                return NONE;
        }
    }

    private void requireTable() {
        if (!made) {
            throw new IllegalStateException("no table is made");
        }
    }

    private static boolean isHashedShape(int n, int w, int s) {
        return n >= 1 && n <= MOST_BUCKETS && Integer.bitCount(n) == 1
            && w >= 1 && w <= MOST_WAYS
            && s >= 0 && s <= MOST_STASHED;
    }

    private static boolean isListedShape(int n) {
        return n >= 1 && n <= MOST_LISTED;
    }

    private static boolean isAction(int action) {
        return action >= 0 && action <= LAST_ACTION;
    }

    private long askedMask(int k) {
        return askedMasks[k] & keys.ones[k];
    }

    private boolean areMasksRight() {
        for (int k = 0; k < keys.size; k++) {
            if (!keys.takeMask(k, askedMask(k))) {
                return false;
            }
        }
        return true;
    }

    /** The slot of the entry with the values and masks that are set; a wrong mask finds NONE, as no entry has it. */
    private int findAsked() {
        for (int slot = 0; slot < entries.size; slot++) {
            if (isAsked(slot)) {
                return slot;
            }
        }
        return NONE;
    }

    private boolean isAsked(int slot) {
        for (int k = 0; k < keys.size; k++) {
            int at = Entries.place(slot, k);
            long mask = askedMask(k);
            if (entries.masks[at] != mask || entries.values[at] != (askedValues[k] & mask)) {
                return false;
            }
        }
        return true;
    }

    private boolean fitsAsked(int slot) {
        for (int k = 0; k < keys.size; k++) {
            int at = Entries.place(slot, k);
            if ((askedValues[k] & entries.masks[at]) != entries.values[at]) {
                return false;
            }
        }
        return true;
    }

    private boolean hasRoom() {
        return entries.size < capacity && (!hashed || buckets.haveRoom(bucket()));
    }

    /** The caller has tested that there is room, so that the slot is one. */
    private void addAsked(int priority, int action, long datum) {
        int slot = entries.size;
        int prefixOnes = 0;
        for (int k = 0; k < keys.size; k++) {
            int at = Entries.place(slot, k);
            long mask = askedMask(k);
            entries.masks[at] = mask;
            entries.values[at] = askedValues[k] & mask;
            if (keys.kinds[k] == PREFIX) {
                prefixOnes = Long.bitCount(mask);
            }
        }
        entries.prefixOnes[slot] = prefixOnes;
        entries.priorities[slot] = priority;
        entries.actions[slot] = action;
        entries.data[slot] = datum;
        entries.size = slot + 1;
    }

    /** The keys by their numbers. */
    private static final class Keys {
        final int[] kinds = new int[MOST_KEYS];
        final long[] ones = new long[MOST_KEYS];
        int size;

        boolean have(int kind) {
            for (int k = 0; k < size; k++) {
                if (kinds[k] == kind) {
                    return true;
                }
            }
            return false;
        }

        boolean areExact() {
            return !have(PREFIX) && !have(MASKED);
        }

        boolean allow(int kind) {
            switch (kind) {
                case PREFIX:
                    return areExact();
                case MASKED:
                    return !have(PREFIX);
                default:
                    return true;
            }
        }

        /** The caller has tested that there is a place, and that the width is 1 to 64. */
        int add(int width, int kind) {
            int k = size;
            kinds[k] = kind;
            ones[k] = -1L >>> (MOST_BITS - width);
            size = k + 1;
            return k;
        }

        /** Whether a mask that is cut to the width of key k is one for its kind. */
        boolean takeMask(int k, long mask) {
            long noughts = ones[k] & ~mask;
            switch (kinds[k]) {
                case EXACT:
                    return noughts == 0L;
                case PREFIX:
                    // Noughts at the bottom alone are one below a power of two (or all 64 bits).
                    return (noughts & (noughts + 1L)) == 0L;
                default:
                    return true;
            }
        }
    }

    /** The entries, in the order in which they came. */
    private static final class Entries {
        final long[] values = new long[MOST_ENTRIES * MOST_KEYS];
        final long[] masks = new long[MOST_ENTRIES * MOST_KEYS];
        final int[] prefixOnes = new int[MOST_ENTRIES];
        final int[] priorities = new int[MOST_ENTRIES];
        final int[] actions = new int[MOST_ENTRIES];
        final long[] data = new long[MOST_ENTRIES];
        int size;

        static int place(int slot, int k) {
            return slot * MOST_KEYS + k;
        }

        /** The later entries move down and keep their order, since the first to come wins a tie. */
        void drop(int slot) {
            for (int to = slot; to + 1 < size; to++) {
                copy(to + 1, to);
            }
            size--;
        }

        private void copy(int from, int to) {
            for (int k = 0; k < MOST_KEYS; k++) {
                values[place(to, k)] = values[place(from, k)];
                masks[place(to, k)] = masks[place(from, k)];
            }
            prefixOnes[to] = prefixOnes[from];
            priorities[to] = priorities[from];
            actions[to] = actions[from];
            data[to] = data[from];
        }

        /** Whether a later entry is worth more than an earlier one, which wins if they are equal. */
        boolean isWorthMore(int later, int earlier) {
            if (prefixOnes[later] != prefixOnes[earlier]) {
                return prefixOnes[later] > prefixOnes[earlier];
            }
            return priorities[later] > priorities[earlier];
        }
    }

    /** How many entries each bucket of a hashed table has; there are none in another table. */
    private static final class Buckets {
        final int[] held = new int[MOST_BUCKETS];
        int size;
        int ways;
        int stash;

        void lay(int n, int w, int s) {
            Arrays.fill(held, 0);
            size = n;
            ways = w;
            stash = s;
        }

        /** The size is 0 or a power of two, for which the low bits are the modulo whatever the sign. */
        int indexOf(long hash) {
            return size == 0 ? NONE : (int) (hash & (size - 1));
        }

        boolean isOne(int b) {
            return b >= 0 && b < size;
        }

        boolean haveRoom(int b) {
            return isOne(b) && (held[b] < ways || above() < stash);
        }

        void fill(int b) {
            if (isOne(b)) {
                held[b]++;
            }
        }

        void empty(int b) {
            if (isOne(b)) {
                held[b]--;
            }
        }

        int above() {
            int sum = 0;
            for (int b = 0; b < size; b++) {
                sum += Math.max(0, held[b] - ways);
            }
            return sum;
        }
    }
}
