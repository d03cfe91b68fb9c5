import java.util.function.IntToLongFunction;
import java.util.function.LongSupplier;

/** Collects what answered otherwise than is due; report() ends the program with 1 if anything did. */
final class Check {
    private int right = 0;
    private int wrong = 0;

    static final Class<? extends RuntimeException> INDEX = IndexOutOfBoundsException.class;
    static final Class<? extends RuntimeException> ARGUMENT = IllegalArgumentException.class;
    static final Class<? extends RuntimeException> STATE = IllegalStateException.class;

    void is(String what, long want, long got) {
        note(what, Long.toString(want), Long.toString(got));
    }

    void is(String what, boolean want, boolean got) {
        note(what, Boolean.toString(want), Boolean.toString(got));
    }

    /** The very class is asked for, as a class below it would come from the machine. */
    void fails(String what, Class<? extends RuntimeException> want, LongSupplier call) {
        note(what, want.getName(), outcome(call));
    }

    void failsAct(String what, Class<? extends RuntimeException> want, Runnable call) {
        fails(what, want, () -> {
            call.run();
            return 0;
        });
    }

    /** The range of one argument: both its ends are taken, and what lies right beyond or far away is not. */
    void range(String what, int least, int most, Class<? extends RuntimeException> beyond, IntToLongFunction call) {
        takes(what, call, least, most);
        refuses(what, beyond, call, least - 1, most + 1, least - 256, most + 256, most + 65536,
            Integer.MIN_VALUE, Integer.MIN_VALUE + least, Integer.MIN_VALUE + most, Integer.MAX_VALUE);
    }

    void takes(String what, IntToLongFunction call, int... values) {
        for (int value : values) {
            String got = outcome(() -> call.applyAsLong(value));
            note(what + ", " + value + " is taken", "true", Boolean.toString(!got.startsWith("java.")));
        }
    }

    void refuses(String what, Class<? extends RuntimeException> want, IntToLongFunction call, int... values) {
        for (int value : values) {
            fails(what + ", " + value, want, () -> call.applyAsLong(value));
        }
    }

    /** What a call answered, or the name of what it threw. */
    static String outcome(LongSupplier call) {
        try {
            return Long.toString(call.getAsLong());
        } catch (RuntimeException e) {
            return e.getClass().getName();
        }
    }

    void note(String what, String want, String got) {
        if (want.equals(got)) {
            right++;
        } else {
            wrong++;
            System.out.println(what + ": answered " + got + ", due is " + want);
        }
    }

    void report(String test) {
        System.out.println(test + ": " + right + " right, " + wrong + " wrong");
        if (wrong != 0 || right == 0) {
            System.exit(1);
        }
    }
}
