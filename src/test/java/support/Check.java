import java.util.function.LongSupplier;

/** Collects what answered otherwise than is due; report() ends the program with 1 if anything did. */
final class Check {
    private int right = 0;
    private int wrong = 0;

    static final Class<? extends RuntimeException> INDEX = IndexOutOfBoundsException.class;
    static final Class<? extends RuntimeException> ARGUMENT = IllegalArgumentException.class;
    static final Class<? extends RuntimeException> STATE = IllegalStateException.class;

    void is(String what, long want, long got) {
        note(what, Long.toString(want), Long.toString(got));
    }

    void is(String what, boolean want, boolean got) {
        note(what, Boolean.toString(want), Boolean.toString(got));
    }

    /** The very class is asked for, as a class below it would come from the machine. */
    void fails(String what, Class<? extends RuntimeException> want, LongSupplier call) {
        note(what, want.getName(), outcome(call));
    }

    void failsAct(String what, Class<? extends RuntimeException> want, Runnable call) {
        fails(what, want, () -> {
            call.run();
            return 0;
        });
    }

    /** What a call answered, or the name of what it threw. */
    static String outcome(LongSupplier call) {
        try {
            return Long.toString(call.getAsLong());
        } catch (RuntimeException e) {
            return e.getClass().getName();
        }
    }

    void note(String what, String want, String got) {
        if (want.equals(got)) {
            right++;
        } else {
            wrong++;
            System.out.println(what + ": answered " + got + ", due is " + want);
        }
    }

    void report(String test) {
        System.out.println(test + ": " + right + " right, " + wrong + " wrong");
        if (wrong != 0 || right == 0) {
            System.exit(1);
        }
    }
}
