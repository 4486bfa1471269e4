import java.util.ArrayList;
import java.util.List;

/** The document in other words, bit by bit and without regard to speed, to compare the class with. */
final class Model {
    private record Key(int width, int kind) {
    }

    private static final class Entry {
        String[] pattern;
        int priority;
        int action;
        long datum;
    }

    private List<Key> keys = new ArrayList<>();
    private List<Entry> entries = new ArrayList<>();
    private long[] values = new long[4];
    private long[] masks = new long[4];
    private int[] shape = null;
    private long datum = 0;

    void clear() {
        Model fresh = new Model();
        keys = fresh.keys;
        entries = fresh.entries;
        values = fresh.values;
        masks = fresh.masks;
        shape = null;
        datum = 0;
    }

    int key(int width, int kind) {
        if (!(1 <= width && width <= 64) || !(0 <= kind && kind <= 2)) {
            throw new IllegalArgumentException();
        }
        if (keys.size() == 4 || shape != null) {
            throw new IllegalStateException();
        }
        boolean prefix = keys.stream().anyMatch(k -> k.kind == 1);
        boolean masked = keys.stream().anyMatch(k -> k.kind == 2);
        if (prefix && kind != 0 || masked && kind == 1) {
            throw new IllegalArgumentException();
        }
        keys.add(new Key(width, kind));
        return keys.size() - 1;
    }

    private boolean exact() {
        return keys.stream().allMatch(k -> k.kind == 0);
    }

    private boolean hashed() {
        return shape != null && exact();
    }

    void make(int n, int w, int s) {
        if (keys.isEmpty() || shape != null) {
            throw new IllegalStateException();
        }
        if (exact()) {
            if (!List.of(1, 2, 4, 8, 16).contains(n) || !List.of(1, 2, 3, 4).contains(w) || s < 0 || s > 8) {
                throw new IllegalArgumentException();
            }
        } else if (n < 1 || n > 32) {
            throw new IllegalArgumentException();
        }
        shape = new int[] {n, w, s};
    }

    void set(int i, long value, long mask) {
        if (i < 0 || i > 3) {
            throw new IndexOutOfBoundsException();
        }
        values[i] = value;
        masks[i] = mask;
    }

    private static boolean bit(long of, int at) {
        return (of >> at & 1L) == 1L;
    }

    /** A letter for each bit from the top: 0, 1, or * where the mask has none. */
    private String[] pattern() {
        String[] all = new String[keys.size()];
        for (int k = 0; k < all.length; k++) {
            StringBuilder text = new StringBuilder();
            for (int at = keys.get(k).width - 1; at >= 0; at--) {
                text.append(!bit(masks[k], at) ? '*' : bit(values[k], at) ? '1' : '0');
            }
            all[k] = text.toString();
        }
        return all;
    }

    private boolean right(String[] pattern) {
        for (int k = 0; k < pattern.length; k++) {
            String form = keys.get(k).kind == 0 ? "[01]*" : keys.get(k).kind == 1 ? "[01]*\\**" : ".*";
            if (!pattern[k].matches(form)) {
                return false;
            }
        }
        return true;
    }

    private Entry find() {
        String[] pattern = pattern();
        for (Entry e : entries) {
            if (java.util.Arrays.equals(e.pattern, pattern)) {
                return e;
            }
        }
        return null;
    }

    private void needTable() {
        if (shape == null) {
            throw new IllegalStateException();
        }
    }

    boolean insert(int priority, int action, long datum) {
        needTable();
        Entry e = new Entry();
        e.pattern = pattern();
        e.priority = priority;
        e.action = action;
        e.datum = datum;
        if (action < 0 || action > 7 || !right(e.pattern) || find() != null) {
            return false;
        }
        entries.add(e);
        boolean room = hashed() ? above() <= shape[2] : entries.size() <= shape[0];
        if (!room) {
            entries.remove(e);
        }
        return room;
    }

    boolean change(int action, long datum) {
        needTable();
        Entry e = find();
        if (e == null || action < 0 || action > 7) {
            return false;
        }
        e.action = action;
        e.datum = datum;
        return true;
    }

    boolean remove() {
        needTable();
        return entries.remove(find());
    }

    private boolean matches(Entry e) {
        for (int k = 0; k < e.pattern.length; k++) {
            int width = e.pattern[k].length();
            for (int i = 0; i < width; i++) {
                char due = e.pattern[k].charAt(i);
                if (due != '*' && due != (bit(values[k], width - 1 - i) ? '1' : '0')) {
                    return false;
                }
            }
        }
        return true;
    }

    private long prefixOnes(Entry e) {
        for (int k = 0; k < e.pattern.length; k++) {
            if (keys.get(k).kind == 1) {
                return e.pattern[k].chars().filter(c -> c != '*').count();
            }
        }
        return 0;
    }

    int match() {
        needTable();
        Entry best = entries.stream().filter(this::matches)
            .sorted((a, b) -> prefixOnes(a) != prefixOnes(b)
                ? Long.compare(prefixOnes(b), prefixOnes(a))
                : Integer.compare(b.priority, a.priority))
            .findFirst().orElse(null);
        datum = best == null ? 0 : best.datum;
        return best == null ? -1 : best.action;
    }

    long datum() {
        return datum;
    }

    private int bucketOf(String[] bits) {
        long h = 0;
        for (String text : bits) {
            long v = Long.parseUnsignedLong(text, 2);
            h = 31 * h + (v ^ (v >>> 32) ^ (v >>> 17));
        }
        return (int) Long.remainderUnsigned(h ^ (h >>> 20) ^ (h >>> 7), shape[0]);
    }

    int bucket() {
        if (!hashed()) {
            return -1;
        }
        long[] kept = masks;
        masks = new long[] {-1, -1, -1, -1};
        int b = bucketOf(pattern());
        masks = kept;
        return b;
    }

    private int above() {
        int[] held = new int[shape[0]];
        int sum = 0;
        for (Entry e : entries) {
            if (++held[bucketOf(e.pattern)] > shape[1]) {
                sum++;
            }
        }
        return sum;
    }

    int count(int what) {
        if (what == 2) {
            return keys.size();
        }
        if (shape == null || what < 0 || what > 3) {
            return -1;
        }
        if (what == 0) {
            return entries.size();
        }
        if (what == 1) {
            return hashed() ? above() : 0;
        }
        return hashed() ? shape[0] * shape[1] + shape[2] : shape[0];
    }
}
