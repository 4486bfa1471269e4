/** Compares answers with those that are due, tells the wrong ones, and ends a test. */
final class Check {
    interface Call {
        void run();
    }

    private static int wrong = 0;

    private Check() {
    }

    static void same(String what, long got, long due) {
        if (got != due) {
            tell(what + " answered " + got + ", due is " + due);
        }
    }

    static void yes(String what, boolean got) {
        if (!got) {
            tell(what + " answered false, due is true");
        }
    }

    static void no(String what, boolean got) {
        if (got) {
            tell(what + " answered true, due is false");
        }
    }

    /** The very class counts: a subclass of it is one that the machine threw. */
    static void fails(String what, Class<? extends RuntimeException> due, Call call) {
        Class<?> got = null;
        try {
            call.run();
        } catch (RuntimeException e) {
            got = e.getClass();
        }
        if (got != due) {
            tell(what + " threw " + got + ", due is " + due);
        }
    }

    static void failsArgument(String what, Call call) {
        fails(what, IllegalArgumentException.class, call);
    }

    static void failsState(String what, Call call) {
        fails(what, IllegalStateException.class, call);
    }

    static void failsIndex(String what, Call call) {
        fails(what, IndexOutOfBoundsException.class, call);
    }

    static void tell(String text) {
        wrong++;
        System.out.println("  " + text);
    }

    static void end() {
        if (wrong != 0) {
            System.out.println("  " + wrong + " answers are not as due");
            System.exit(1);
        }
    }
}
