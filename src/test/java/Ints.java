import java.math.BigInteger;
import java.util.Arrays;

/** Ints of certificates, as a test says them. */
final class Ints {
    private static final BigInteger ONE = BigInteger.ONE;

    private Ints() {
    }

    static int[] joined(int[] start, int... more) {
        int[] both = Arrays.copyOf(start, start.length + more.length);
        System.arraycopy(more, 0, both, start.length, more.length);
        return both;
    }

    /** A number's words, ahead of them how many there are. */
    static int[] words(BigInteger number) {
        int count = (number.bitLength() + 31) / 32;
        int[] words = new int[count + 1];
        words[0] = count;
        for (int i = 0; i < count; i++) {
            words[1 + i] = number.shiftRight(32 * i).intValue();
        }
        return words;
    }

    static int[] line(int kind, BigInteger number, int... others) {
        return joined(joined(new int[] {kind}, words(number)), others);
    }

    static int[] smallLines(int... primes) {
        int[] tape = new int[2 * primes.length];
        for (int i = 0; i < primes.length; i++) {
            tape[2 * i] = 1;
            tape[2 * i + 1] = primes[i];
        }
        return tape;
    }

    /** A line 2 whose factors are told by the lines 0, 1 and so on. */
    static int[] wholeLine(BigInteger n, int root, int... primes) {
        int[] ints = line(2, n, root, primes.length);
        for (int f = 0; f < primes.length; f++) {
            ints = joined(ints, f, exponent(n, primes[f]));
        }
        return ints;
    }

    /** A line 3 likewise, with one witness for all of its factors. */
    static int[] partLine(BigInteger n, int witness, int... primes) {
        int[] ints = line(3, n, primes.length);
        for (int f = 0; f < primes.length; f++) {
            ints = joined(ints, f, exponent(n, primes[f]), witness);
        }
        return ints;
    }

    /** How often p goes into n - 1. */
    static int exponent(BigInteger n, int p) {
        BigInteger divisor = BigInteger.valueOf(p);
        int e = 0;
        for (BigInteger left = n.subtract(ONE); left.mod(divisor).signum() == 0; left = left.divide(divisor)) {
            e++;
        }
        return e;
    }
}
