import java.util.function.BooleanSupplier;
import java.util.function.IntSupplier;

/** Compares answers with those that are due, and ends the test with 1 if one was wrong. */
final class Due {
    static final String NO_SUCH = "java.lang.IndexOutOfBoundsException";
    static final String OUT_OF_RANGE = "java.lang.IllegalArgumentException";
    static final String NOT_NOW = "java.lang.IllegalStateException";

    private int right;
    private int wrong;

    void is(String call, Object want, Object got) {
        if (want.equals(got)) {
            right++;
        } else {
            wrong++;
            System.out.println(call + " answered " + got + ", due is " + want);
        }
    }

    void answers(String call, int want, IntSupplier body) {
        is(call, "" + want, outcome(body));
    }

    void answers(String call, boolean want, BooleanSupplier body) {
        answers(call, want ? 1 : 0, () -> body.getAsBoolean() ? 1 : 0);
    }

    /** A call's answer, or the exact class of what it throws. */
    static String outcome(IntSupplier body) {
        try {
            return "" + body.getAsInt();
        } catch (RuntimeException e) {
            return e.getClass().getName();
        }
    }

    void noSuch(String call, IntSupplier body) {
        is(call, NO_SUCH, outcome(body));
    }

    void outOfRange(String call, IntSupplier body) {
        is(call, OUT_OF_RANGE, outcome(body));
    }

    void notNow(String call, IntSupplier body) {
        is(call, NOT_NOW, outcome(body));
    }

    void end() {
        System.out.println(right + " answers right, " + wrong + " wrong");
        if (wrong > 0) {
            System.exit(1);
        }
    }
}
