import java.math.BigInteger;

/**
 * All that a caller can see of an object behind a run of calls. Each part is looked at on a new
 * object that has had the same run, as looking takes calls, and tell() changes a register.
 */
final class Picture {
    interface Run {
        void on(Calls x);
    }

    private static final int NO_LINE = 40;

    private Picture() {
    }

    static Calls after(Run run) {
        Calls x = new Calls();
        run.on(x);
        return x;
    }

    static String of(Run run) {
        return registers(run) + " | " + tape(run) + " | " + told(run);
    }

    static String registers(Run run) {
        Calls x = after(run);
        StringBuilder text = new StringBuilder("registers");
        for (int r = 0; r < 8; r++) {
            text.append(' ').append(Checks.number(x, r).toString(16));
        }
        return text.toString();
    }

    static String tape(Run run) {
        return "tape " + Checks.tape(after(run));
    }

    /** place(), and the numbers that tell() tells, from the first line on. */
    static String told(Run run) {
        Calls x = after(run);
        StringBuilder text = new StringBuilder("place " + x.place() + " tells");
        for (int l = 0; l < NO_LINE && x.tell(l, 0); l++) {
            BigInteger number = Checks.number(x, 0);
            text.append(' ').append(number);
        }
        return text.toString();
    }
}
