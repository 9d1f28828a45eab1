import java.math.BigInteger;

/** The limits of promises 11, 15 and 18: 4000 ints, 200 lines, 40 factors; within 512 calls each. */
public final class LimitsTest {
    private static final int NO = PrimeCertificates.NO;
    private static final BigInteger ONE = BigInteger.ONE;

    private static final Checks checks = new Checks("LimitsTest");

    public static void main(String[] args) {
        linesOfChecker();
        linesOfMaker();
        factors();
        for (boolean whole : new boolean[] {true, false}) {
            ints(whole, 1, 2);
            // Seven ints more, so that the room is even where it was odd.
            ints(whole, 1, 2, 2, 1, 3, 2, 1, 0, 1);
        }
        checks.finish();
    }

    private static PrimeCertificates withSmallLines(int lines, int p) {
        PrimeCertificates x = new PrimeCertificates();
        for (int i = 0; i < lines; i++) {
            Checks.say(x, 1, p);
        }
        return x;
    }

    private static void linesOfChecker() {
        PrimeCertificates x = withSmallLines(200, 3);
        checks.due("check() of 200 lines", x.check(), 200);
        checks.due("tell(199, 0)", x.tell(199, 0), true);
        checks.due("tell(200, 0)", x.tell(200, 0), false);
        x.say(1);
        checks.due("check() of 200 lines and an int", x.check(), -102);
        checks.due("place()", x.place(), 400);
        checks.due("tell(0, 0)", x.tell(0, 0), false);
        x.say(3);
        checks.due("check() of 201 lines", x.check(), -102);
        checks.due("place()", x.place(), 400);
        checks.due("prove(0) on 201 lines", x.prove(0), -102);
        x.cut(400);
        checks.due("check() of 200 lines", x.check(), 200);
        x = withSmallLines(201, 3);
        checks.due("a first check() of 201 lines", x.check(), -102);
        checks.due("place()", x.place(), 400);
        x = withSmallLines(200, 3);
        Checks.say(x, 7);
        checks.due("check() of 200 lines and a strange int", x.check(), -102);
        checks.due("place()", x.place(), 400);
    }

    private static void linesOfMaker() {
        PrimeCertificates x = withSmallLines(199, 3);
        x.put(0, 0, 65537);
        checks.due("prove 65537 by two lines more", x.prove(0), NO);
        checks.due("length()", x.length(), 398);
        checks.due("tell(198, 1)", x.tell(198, 1), true);
        checks.due("tell(199, 1)", x.tell(199, 1), false);
        x.cut(396);
        checks.due("prove 65537 by lines 198 and 199", x.prove(0), 199);
        checks.due("length()", x.length(), 405);
        checks.due("check()", x.check(), 200);
        x.put(0, 0, 5);
        checks.due("prove 5 by line 200", x.prove(0), NO);
        checks.due("length()", x.length(), 405);
        x.put(0, 0, 3);
        checks.due("prove 3, which is told", x.prove(0), 0);
        x = withSmallLines(199, 2);
        x.put(0, 0, 5);
        checks.due("prove 5 by line 199", x.prove(0), 199);
        x.put(0, 0, 65537);
        checks.due("prove 65537 by line 200", x.prove(0), NO);
        checks.due("length()", x.length(), 400);
        x.cut(398);
        checks.due("prove 65537 by line 199", x.prove(0), 199);
        x = withSmallLines(198, 2);
        x.put(0, 0, 65539);
        checks.due("prove 65539 by four lines more", x.prove(0), NO);
        checks.due("length()", x.length(), 396);
    }

    private static BigInteger firstPrimes(int count) {
        BigInteger product = ONE;
        BigInteger p = ONE;
        for (int i = 0; i < count; i++) {
            p = p.nextProbablePrime();
            product = product.multiply(p);
        }
        return product;
    }

    /** The next prime k step + 1, k with no prime divisor above 100, that a witness up to 200 proves. */
    private static BigInteger primeAbove(BigInteger step, int from) {
        for (int k = from; ; k++) {
            int left = k;
            for (int p = 2; p <= 100; p++) {
                while (left % p == 0) {
                    left /= p;
                }
            }
            BigInteger n = step.multiply(BigInteger.valueOf(k)).add(ONE);
            if (left == 1 && n.isProbablePrime(50) && hasWitness(n)) {
                return n;
            }
        }
    }

    private static boolean hasWitness(BigInteger n) {
        for (int a = 2; a <= 200; a++) {
            boolean right = true;
            for (int p = 2; p <= 1013 && right; p++) {
                BigInteger[] share = n.subtract(ONE).divideAndRemainder(BigInteger.valueOf(p));
                boolean prime = BigInteger.valueOf(p).isProbablePrime(20);
                right = !prime || share[1].signum() != 0 || !BigInteger.valueOf(a).modPow(share[0], n).equals(ONE);
            }
            if (right) {
                return true;
            }
        }
        return false;
    }

    private static void factors() {
        BigInteger n = primeAbove(firstPrimes(40), 1);
        PrimeCertificates x = new PrimeCertificates();
        Checks.set(x, 0, n);
        checks.due("prove by 40 factors", x.prove(0), 40);
        checks.due("kind", x.at(80), 2);
        checks.due("length()", x.length(), 80 + 4 + x.at(81) + 80);
        checks.due("m", x.at(x.length() - 81), 40);
        PrimeCertificates fresh = new PrimeCertificates();
        for (int i = 0; i < x.length(); i++) {
            fresh.say(x.at(i));
        }
        checks.due("check() of 40 factors", fresh.check(), 41);

        x = new PrimeCertificates();
        Checks.set(x, 0, primeAbove(firstPrimes(41), 1));
        checks.due("prove by 41 factors", x.prove(0), NO);
        checks.due("length()", x.length(), 0);

        n = primeAbove(firstPrimes(40).multiply(BigInteger.valueOf(1013)), 1);
        x = new PrimeCertificates();
        Checks.set(x, 0, n);
        checks.due("prove by 40 factors and what is left", x.prove(0), 40);
        checks.due("kind", x.at(80), 3);
        checks.due("check()", x.check(), 41);
        x = Checks.withTape(1, 1013);
        Checks.set(x, 0, n);
        checks.due("prove by 41 factors, one told", x.prove(0), NO);
        checks.due("length()", x.length(), 2);
    }

    /** Puts k step + 1 into register 0, by the step in register 1 and the 1 in register 4. */
    private static void setAbove(PrimeCertificates x, BigInteger step, BigInteger n) {
        x.put(2, 0, n.divide(step).intValue());
        x.multiply(1, 2, 3);
        x.add(3, 4, 0);
    }

    private static int lineInts(BigInteger n, boolean whole) {
        int words = (n.bitLength() + 31) / 32;
        return whole ? 4 + words + 2 * 30 : 3 + words + 3 * 30;
    }

    private static void pad(PrimeCertificates x, int room) {
        for (int length = x.length(); length + room + 1 < 4000; length += 2) {
            x.say(1);
            x.say(3);
        }
    }

    /** Lines of 30 factors fill the tape soon, with four calls each. */
    private static void ints(boolean whole, int... start) {
        BigInteger step = firstPrimes(30);
        PrimeCertificates x = Checks.withTape(start);
        Checks.set(x, 1, step);
        x.put(4, 0, 1);
        BigInteger n = primeAbove(step, 1);
        while (x.length() + lineInts(n, true) + lineInts(n, whole) + 2 <= 4000) {
            setAbove(x, step, n);
            checks.due("prove " + n, x.prove(0) >= 30, true);
            n = primeAbove(step, n.divide(step).intValue() + 1);
        }
        // An int or none more than the last line needs, and then two less.
        int lines = x.check();
        n = whole ? n : primeAbove(step.multiply(BigInteger.valueOf(1013)), 1);
        int needed = lineInts(n, whole);
        setAbove(x, step, n);
        pad(x, needed);
        int before = x.length();
        int padded = x.check();
        checks.due("lines of padding", padded > lines, true);
        checks.due("prove with room", x.prove(0), padded);
        checks.due("length()", x.length(), before + needed);
        checks.due("kind", x.at(before), whole ? 2 : 3);
        x.cut(before);
        Checks.say(x, 1, 3);
        checks.due("prove without room", x.prove(0), NO);
        checks.due("length()", x.length(), before + 2);
        checks.due("place()", x.place(), NO);
        checks.due("tell()", x.tell(padded, 5), true);
        checks.due("tell()", x.tell(padded + 1, 5), false);
        pad(x, 2);
        x.put(5, 0, 65521);
        checks.due("prove by two ints", x.prove(5), x.check() - 1);
        x.put(5, 0, 65519);
        checks.due("prove without two ints", x.prove(5), NO);
        fullTape(x);
    }

    private static void fullTape(PrimeCertificates x) {
        for (int length = x.length(); length < 4000; length++) {
            checks.due("say to 4000", x.say(1), length + 1);
        }
        checks.due("say beyond", x.say(9), PrimeCertificates.FULL);
        checks.due("length()", x.length(), 4000);
        checks.due("at(3999) stays", x.at(3999) == 9, false);
        checks.due("at(4000)", x.at(4000), 0);
        checks.due("cut(4001)", x.cut(4001), false);
        checks.due("cut(4000)", x.cut(4000), true);
        checks.due("cut(3999)", x.cut(3999), true);
        checks.due("say again", x.say(9), 4000);
        checks.due("at(3999)", x.at(3999), 9);
        checks.due("say beyond again", x.say(9), PrimeCertificates.FULL);
    }
}
