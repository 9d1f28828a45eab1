import java.math.BigInteger;
import java.util.Arrays;

/** Primes whose lines have as many factors as a test asks for. */
final class Primes {
    private static final BigInteger ONE = BigInteger.ONE;

    private Primes() {
    }

    static int[] first(int count) {
        int[] primes = new int[count];
        BigInteger p = ONE;
        for (int i = 0; i < count; i++) {
            p = p.nextProbablePrime();
            primes[i] = p.intValue();
        }
        return primes;
    }

    /** The product of the first primes. */
    static BigInteger product(int count) {
        BigInteger product = ONE;
        for (int p : first(count)) {
            product = product.multiply(BigInteger.valueOf(p));
        }
        return product;
    }

    /** The primes up to 1009 that divide n - 1. */
    static int[] below(BigInteger n) {
        return Arrays.stream(first(169)).filter(p -> Ints.exponent(n, p) > 0).toArray();
    }

    /** The next prime k step + 1, k with no prime divisor above 100, that a witness up to 200 proves. */
    static BigInteger above(BigInteger step, int from) {
        for (int k = from; ; k++) {
            BigInteger n = step.multiply(BigInteger.valueOf(k)).add(ONE);
            if (withoutSmall(k) == 1 && n.isProbablePrime(50) && hasRoot(n)) {
                return n;
            }
        }
    }

    private static int withoutSmall(int k) {
        int left = k;
        for (int p = 2; p <= 100; p++) {
            while (left % p == 0) {
                left /= p;
            }
        }
        return left;
    }

    private static boolean hasRoot(BigInteger n) {
        return leastRoot(n, below(n)) <= 200;
    }

    /** The least witness for all of these factors; n is prime. */
    static int leastRoot(BigInteger n, int... primes) {
        int a = 2;
        while (!isRoot(a, n, primes)) {
            a++;
        }
        return a;
    }

    private static boolean isRoot(int a, BigInteger n, int... primes) {
        for (int p : primes) {
            BigInteger share = n.subtract(ONE).divide(BigInteger.valueOf(p));
            if (BigInteger.valueOf(a).modPow(share, n).equals(ONE)) {
                return false;
            }
        }
        return true;
    }
}
