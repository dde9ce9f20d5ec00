import java.util.function.LongSupplier;

/** What every test uses: it prints each answer that is not due, and ends with exit code 1 if there was one. */
final class Check {
    private static int wrong = 0;
    private static int seen = 0;

    private Check() {
    }

    static void same(String what, long got, long due) {
        seen++;
        if (got != due) {
            report(what + " answered " + got + ", due is " + due);
        }
    }

    static void same(String what, String got, String due) {
        seen++;
        if (!got.equals(due)) {
            report(what + " answered " + got + ", due is " + due);
        }
    }

    static void yes(String what, boolean got) {
        seen++;
        if (!got) {
            report(what + " does not hold");
        }
    }

    /** The call must throw just this class of exception, and must leave the mixer as it was. */
    static void fails(String what, ClipMixer x, Class<?> due, LongSupplier call) {
        seen++;
        long before = x.digest();
        String got = "nothing";
        try {
            call.getAsLong();
        } catch (RuntimeException e) {
            got = e.getClass().getName();
        }
        if (!got.equals(due.getName())) {
            report(what + " threw " + got + ", due is " + due.getName());
        }
        if (x.digest() != before) {
            report(what + " threw and changed something");
        }
    }

    /** The call must save one state, and undo() must bring back just what was there before it. */
    static void undoable(String what, ClipMixer x, LongSupplier call) {
        fillStack(x);
        long before = x.digest();
        call.getAsLong();
        same("undo() after " + what, x.undo(), 3);
        fillStack(x);
        same("digest() after undo() of " + what, x.digest(), before);
    }

    // The digest tells the number of saved states, so digests are compared with a full stack.
    static void fillStack(ClipMixer x) {
        for (int k = 0; k < 2; k++) {
            int playhead = x.seek(0);
            x.seek(playhead);
        }
    }

    private static void report(String text) {
        wrong++;
        System.out.println(text);
    }

    static void end() {
        System.out.println(seen + " looked at, " + wrong + " wrong");
        if (wrong != 0) {
            System.exit(1);
        }
    }
}
