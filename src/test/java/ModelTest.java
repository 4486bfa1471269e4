import java.util.Random;
import java.util.function.LongSupplier;

/** Long runs of calls, the same at every start, whose answers are compared with the model's. */
public final class ModelTest {
    private static final int RUNS = 3000;
    private static final int CALLS = 512;
    private static final long THROWN = 0x7EEDL << 40;

    private final Random dice;
    private final WayTables table = new WayTables();
    private final Model model = new Model();
    private final String name;
    private final int taste;
    private final int spread;

    private ModelTest(int run) {
        dice = new Random(run);
        name = "run " + run;
        taste = run % 3;
        spread = 2 + dice.nextInt(run % 2 == 0 ? 4 : 60);
    }

    public static void main(String[] args) {
        for (int run = 0; run < RUNS; run++) {
            ModelTest test = new ModelTest(run);
            for (int call = 0; call < CALLS; call++) {
                test.step(call);
            }
        }
        Check.end();
    }

    /** An exception counts as an answer of its own, by its very class. */
    private static long answer(LongSupplier call) {
        try {
            return call.getAsLong();
        } catch (RuntimeException e) {
            return THROWN + e.getClass().getName().hashCode();
        }
    }

    private void compare(String call, LongSupplier got, LongSupplier due) {
        Check.same(name + ": " + call, answer(got), answer(due));
    }

    private void step(int call) {
        int turn = call < 6 ? dice.nextInt(3) : dice.nextInt(100);
        if (turn < 2) {
            doKey();
        } else if (turn < 6) {
            doMake();
        } else if (turn < 40) {
            doSet();
        } else if (turn < 60) {
            doInsert();
        } else if (turn < 66) {
            int action = action();
            long datum = dice.nextLong();
            compare("change", () -> table.change(action, datum) ? 1 : 0, () -> model.change(action, datum) ? 1 : 0);
        } else if (turn < 72) {
            compare("remove", () -> table.remove() ? 1 : 0, () -> model.remove() ? 1 : 0);
        } else if (turn < 84) {
            compare("match", table::match, model::match);
        } else if (turn < 90) {
            compare("datum", table::datum, model::datum);
        } else if (turn < 93) {
            compare("bucket", table::bucket, model::bucket);
        } else if (turn < 99 || dice.nextInt(5) > 0) {
            int what = dice.nextInt(6) - 1;
            compare("count(" + what + ")", () -> table.count(what), () -> model.count(what));
        } else {
            table.clear();
            model.clear();
        }
    }

    private void doKey() {
        int[] widths = {1, 2, 3, 8, 31, 32, 33, 63, 64, 0, 65};
        int width = widths[dice.nextInt(dice.nextInt(4) == 0 ? 11 : 9)];
        int kind = dice.nextInt(6) == 0 ? dice.nextInt(5) - 1 : dice.nextBoolean() ? taste : 0;
        compare("key(" + width + ", " + kind + ")", () -> table.key(width, kind), () -> model.key(width, kind));
    }

    private void doMake() {
        int n = dice.nextBoolean() ? 1 << dice.nextInt(6) : dice.nextInt(35) - 1;
        int w = dice.nextInt(8) == 0 ? dice.nextInt(7) - 1 : 1 + dice.nextInt(4);
        int s = dice.nextInt(8) == 0 ? dice.nextInt(12) - 2 : dice.nextInt(9);
        compare("make(" + n + ", " + w + ", " + s + ")",
            () -> { table.make(n, w, s); return 0; }, () -> { model.make(n, w, s); return 0; });
    }

    private void doSet() {
        int i = dice.nextInt(40) == 0 ? dice.nextInt(7) - 2 : dice.nextInt(4);
        long value = value();
        long mask = mask();
        compare("set(" + i + ", " + value + ", " + mask + ")",
            () -> { table.set(i, value, mask); return 0; }, () -> { model.set(i, value, mask); return 0; });
    }

    private void doInsert() {
        int priority = dice.nextInt(10) == 0 ? dice.nextInt() : dice.nextInt(3);
        int action = action();
        long datum = dice.nextLong();
        compare("insert(" + priority + ", " + action + ", ..)",
            () -> table.insert(priority, action, datum) ? 1 : 0,
            () -> model.insert(priority, action, datum) ? 1 : 0);
    }

    private int action() {
        return dice.nextInt(12) == 0 ? dice.nextInt(12) - 2 : dice.nextInt(8);
    }

    private long value() {
        int small = dice.nextInt(spread);
        switch (dice.nextInt(8)) {
            case 0:
                return dice.nextLong();
            case 1:
                return (long) small << dice.nextInt(64);
            case 2:
                return -small;
            default:
                return small;
        }
    }

    private long mask() {
        switch (dice.nextInt(taste == 0 ? 24 : 4)) {
            case 0:
                return -1L << dice.nextInt(64);
            case 1:
                return dice.nextInt(8);
            case 2:
                return taste == 2 ? dice.nextLong() : -1L << dice.nextInt(9);
            default:
                return -1L;
        }
    }
}
