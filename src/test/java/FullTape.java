import java.math.BigInteger;
import java.util.ArrayList;
import java.util.List;

/** Tapes of right lines, up to their 4000 ints: by lines 3 of 40 factors, which take four calls each. */
final class FullTape {
    private static final BigInteger STEP = Primes.product(40);
    private static final int FIRST_INTS = 80 + 131;
    private static final int LINE_INTS = 3 + 8 + 3 * 40;
    private static final List<Integer> times = new ArrayList<>();

    private FullTape() {
    }

    /**
     * So many ints, at least 220, in less than 300 calls. Lines 0 to 39 tell the first 40 primes;
     * register 1 and those up to 4 are used, and register 0 has the number of a line 3.
     */
    static Calls of(int ints) {
        Calls x = new Calls();
        Checks.set(x, 1, STEP);
        x.put(4, 0, 1);
        int length = 0;
        for (int line = 0; length + (line == 0 ? FIRST_INTS : LINE_INTS) + 7 <= ints; line++) {
            x.put(2, 0, timesOf(line));
            x.multiply(1, 2, 3);
            x.add(3, 4, 0);
            x.prove(0);
            length += line == 0 ? FIRST_INTS : LINE_INTS;
        }
        if ((ints - length) % 2 != 0) {
            Checks.say(x, 2, 1, 3, 2, 1, 0, 1);
            length += 7;
        }
        for (; length < ints; length += 2) {
            Checks.say(x, 1, 3);
        }
        return x;
    }

    /** The primes k above 1009 for which k STEP + 1 is prime, of eight words. */
    private static int timesOf(int line) {
        while (times.size() <= line) {
            BigInteger k = BigInteger.valueOf(times.isEmpty() ? 1009 : times.get(times.size() - 1));
            do {
                k = k.nextProbablePrime();
            } while (!STEP.multiply(k).add(BigInteger.ONE).isProbablePrime(50));
            times.add(k.intValue());
        }
        return times.get(line);
    }
}
