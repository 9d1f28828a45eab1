import java.math.BigInteger;

/** THE MAKER and promise 18, each sentence at its edges. */
public final class MakerEdgesTest {
    private static final int NO = PrimeCertificates.NO;
    private static final int FULL = PrimeCertificates.FULL;
    private static final BigInteger ONE = BigInteger.ONE;
    private static final int[] NOTHING = {};

    private static final Checks checks = new Checks("MakerEdgesTest");

    public static void main(String[] args) {
        toldAlready();
        atMost65535();
        justAbove65535();
        primesUpTo1009();
        numbersAbove1009();
        asOftenAsItGoes();
        linesOfNewPrimes();
        firstLineThatTells();
        numbersUpToTheLimit();
        leastRoot();
        leastWitnessOfEachFactor();
        noWitness();
        productTooSmall();
        fortyFactors();
        twoHundredLines();
        fourThousandInts();
        toldOnAFullTape();
        noRegister();
        notRight();
        notPrime();
        checks.finish();
    }

    private static BigInteger of(long v) {
        return BigInteger.valueOf(v);
    }

    /** Answer and added ints of prove() on a tape, and that all else is as it should be. */
    private static void proves(int[] before, BigInteger n, int answer, String added) {
        Calls x = Checks.withTape(before);
        Checks.set(x, 7, n);
        int lines = x.check();
        checks.due("prove " + n, x.prove(7), answer);
        checks.due("added for " + n, Checks.tail(x, before.length), added);
        checks.due("place() behind " + n, x.place(), NO);
        seeNumber(x, n, answer);
        checks.due("check() behind " + n, x.check() >= lines, true);
        checks.due("check() of a new object", Checks.copyOfTape(x).check(), x.check());
    }

    private static void seeNumber(Calls x, BigInteger n, int answer) {
        checks.due("register behind " + n, Checks.number(x, 7), n);
        if (answer >= 0) {
            checks.due("tell() behind " + n, x.tell(answer, 6), true);
            checks.due("told behind " + n, Checks.number(x, 6), n);
        }
    }

    private static void proves(int[] before, long n, int answer, String added) {
        proves(before, of(n), answer, added);
    }

    /** Nothing is added. */
    private static void cannot(int[] before, BigInteger n) {
        proves(before, n, NO, "");
    }

    private static void cannot(int[] before, long n) {
        cannot(before, of(n));
    }

    private static int[] small(int... primes) {
        return Ints.smallLines(primes);
    }

    private static void toldAlready() {
        checks.about("THE MAKER: If a line tells N already, it adds nothing");
        int[] tape = {1, 2, 2, 1, 3, 2, 1, 0, 1, 3, 1, 13, 1, 0, 2, 2, 2, 1, 65537, 3, 1, 0, 16};
        proves(tape, 2, 0, "");
        proves(tape, 3, 1, "");
        proves(tape, 13, 2, "");
        proves(tape, 65537, 3, "");
        proves(tape, 5, 4, "1 5");
        proves(small(3, 2, 3, 2), 3, 0, "");
        proves(small(3, 2, 3, 2), 2, 1, "");
        checks.about("18: the line that tells it, also when it is proved again");
        Calls x = new Calls();
        x.put(0, 0, 65537);
        checks.due("prove(0)", x.prove(0), 1);
        checks.due("prove(0) again", x.prove(0), 1);
        checks.due("length()", x.length(), 9);
        x.cut(2);
        checks.due("prove(0) of what was cut", x.prove(0), 1);
        checks.due("length()", x.length(), 9);
    }

    private static void atMost65535() {
        checks.about("THE MAKER: If N is at most 65535: a line 1, if N is prime");
        Calls x = new Calls();
        for (int n = 0; n <= 65535; n++) {
            x = x.left() < 6 ? new Calls() : x;
            boolean prime = of(n).isProbablePrime(30);
            x.put(0, 0, n);
            checks.due("prove " + n, x.prove(0), prime ? 0 : NO);
            checks.due("length() behind " + n, x.length(), prime ? 2 : 0);
            checks.due("at(1) behind " + n, x.at(1), prime ? n : 0);
            x.cut(0);
        }
        proves(NOTHING, 65521, 0, "1 65521");
        cannot(NOTHING, 65535);
        cannot(NOTHING, 1);
        cannot(NOTHING, 0);
        proves(NOTHING, 2, 0, "1 2");
        checks.about("THE MAKER: a number of more words is not at most 65535");
        for (int i = 1; i < 8; i++) {
            cannot(NOTHING, ONE.shiftLeft(32 * i).add(of(7)));
        }
        cannot(NOTHING, ONE.shiftLeft(31));
        cannot(NOTHING, ONE.shiftLeft(32).subtract(of(5)));
    }

    private static void justAbove65535() {
        checks.about("THE MAKER: at most 65535; Else lines 2 and 3");
        cannot(NOTHING, 65536);
        proves(NOTHING, 65537, 1, "1 2 2 1 65537 3 1 0 16");
        proves(NOTHING, 65539, 4, "1 2 1 3 1 11 1 331 2 1 65539 2 4 0 1 1 2 2 1 3 1");
        // By Reference, which tries all: every number from 65536 on for a while.
        for (int n = 65536; n < 66600; n++) {
            asReference(NOTHING, of(n));
        }
    }

    private static void asReference(int[] before, BigInteger n) {
        Reference y = new Reference();
        for (int v : before) {
            y.say(v);
        }
        for (int i = 0; i < 8; i++) {
            y.put(0, i, n.shiftRight(32 * i).intValue());
        }
        int answer = y.prove(0);
        StringBuilder added = new StringBuilder();
        for (int i = before.length; i < y.length(); i++) {
            added.append(i == before.length ? "" : " ").append(y.at(i));
        }
        proves(before, n, answer, added.toString());
    }

    /** A prime p k + 1 above 65535, k below p and of the primes 2, 3, 5 and 7 alone. */
    private static BigInteger primeBy(int p, int from) {
        for (int k = from; ; k++) {
            int left = k;
            for (int d : new int[] {2, 3, 5, 7}) {
                while (left % d == 0) {
                    left /= d;
                }
            }
            BigInteger n = of(p).multiply(of(k)).add(ONE);
            if (left == 1 && n.compareTo(of(65535)) > 0 && n.isProbablePrime(50)) {
                return n;
            }
        }
    }

    private static void primesUpTo1009() {
        checks.about("THE MAKER: the primes p from 2 to 1009");
        for (int p : Primes.first(169)) {
            asReference(NOTHING, primeBy(p, 1));
        }
        proves(NOTHING, 72649, 3, "1 2 1 3 1 1009 2 1 72649 7 3 0 3 1 2 2 1");
        // 1013 is the next prime, and 72 72 is not above 72937.
        cannot(NOTHING, 72937);
        for (int p : new int[] {1013, 1019, 1021, 1031}) {
            BigInteger n = primeBy(p, 1);
            cannot(NOTHING, n);
            asReference(small(p), n);
        }
    }

    private static void numbersAbove1009() {
        checks.about("THE MAKER: and then by the numbers above 1009 that lines tell, in the order of the lines");
        proves(small(1013), 72937, 3, "1 2 1 3 2 1 72937 5 3 1 3 2 2 0 1");
        // 1009 itself is one of the primes, whose line is there already.
        proves(small(1009), 72649, 3, "1 2 1 3 2 1 72649 7 3 1 3 2 2 0 1");
        proves(small(60013), 1320287, 3, "1 2 1 11 2 1 1320287 5 3 1 1 2 1 0 1");
        proves(small(60013, 1013), 1094277043, 4, "1 2 1 3 2 1 1094277043 2 4 2 1 3 2 1 1 0 1");
        proves(small(1013, 60013), 1094277043, 4, "1 2 1 3 2 1 1094277043 2 4 2 1 3 2 0 1 1 1");
        // Factors that stand in the order of their numbers, whatever lines tell them.
        proves(small(5, 60013, 1013), 1094277043, 5, "1 2 1 3 2 1 1094277043 2 4 3 1 4 2 2 1 1 1");
        proves(small(7, 60013, 1019, 1013), 1362861262643L, 6, "1 2 1 11 2 2 1356629811 317 2 5 4 1 5 1 3 1 2 1 1 1");
        // Lines whose numbers do not divide are no factors.
        proves(small(1019, 1013, 65521), 72937, 5, "1 2 1 3 2 1 72937 5 3 3 3 4 2 1 1");
        // 3 2^41 + 1, of a line 3, divides 6 (3 2^41 + 1) + 1 less one, as its largest factor.
        int[] wide = {1, 2, 3, 2, 1, 3 << 9, 1, 0, 41, 5};
        BigInteger step = of(3L << 41 | 1).shiftLeft(1);
        BigInteger n = step.add(ONE);
        while (!n.isProbablePrime(50)) {
            n = n.add(step);
        }
        asReference(wide, n);
        cannot(small(2), n);
    }

    private static void asOftenAsItGoes() {
        checks.about("THE MAKER: by each as often as it goes");
        proves(small(1013), 4104677, 2, "1 2 2 1 4104677 2 2 1 2 0 2");
        proves(NOTHING, of(3).shiftLeft(189).add(ONE), 2, "1 2 1 3 2 6 1 0 0 0 0 1610612736 10 2 0 189 1 1");
        proves(NOTHING, of(3).shiftLeft(41).add(ONE), 2, "1 2 1 3 2 2 1 1536 5 2 0 41 1 1");
        // 2^255 goes into one number below 2^256 alone, and 3 divides the next one.
        cannot(NOTHING, ONE.shiftLeft(255).add(ONE));
        asReference(NOTHING, of(2).multiply(of(3).pow(120)).add(ONE));
        asReference(NOTHING, of(2).multiply(of(3).pow(57)).add(ONE));
        asReference(NOTHING, of(4).multiply(of(1009).pow(20)).add(ONE));
    }

    private static void linesOfNewPrimes() {
        checks.about("THE MAKER: primes that divide and are told by no line get lines 1, in order, first");
        proves(small(11), 65539, 4, "1 2 1 3 1 331 2 1 65539 2 4 1 1 2 2 0 1 3 1");
        proves(small(331, 2), 65539, 4, "1 3 1 11 2 1 65539 2 4 1 1 2 2 3 1 0 1");
        proves(small(2, 3, 11, 331), 65539, 4, "2 1 65539 2 4 0 1 1 2 2 1 3 1");
        proves(small(5, 7, 13), 65539, 7, "1 2 1 3 1 11 1 331 2 1 65539 2 4 3 1 4 2 5 1 6 1");
        // For a line 3 too, whose factors are those that were found.
        proves(small(3), 1090849, 3, "1 2 1 11 3 1 1090849 3 1 5 13 0 1 2 2 1 3");
    }

    private static void firstLineThatTells() {
        checks.about("THE MAKER: the factors, with the first line that tells each");
        proves(small(2, 2), 65537, 2, "2 1 65537 3 1 0 16");
        proves(small(2, 1013, 1013, 2), 4104677, 4, "2 1 4104677 2 2 0 2 1 2");
        proves(small(3, 3, 2, 2), 65539, 6, "1 11 1 331 2 1 65539 2 4 2 1 0 2 4 1 5 1");
        int[] byWhole = {1, 2, 2, 1, 3, 2, 1, 0, 1, 1, 3};
        proves(byWhole, 65539, 5, "1 11 1 331 2 1 65539 2 4 0 1 1 2 3 1 4 1");
    }

    /** Primes just below 2^256, whose highest words are as large as can be. */
    private static void numbersUpToTheLimit() {
        checks.about("Terms: NUMBERS are below 2^256: the maker's too");
        for (int less : new int[] {178, 193, 289}) {
            BigInteger n = ONE.shiftLeft(56).subtract(of(less)).shiftLeft(200).add(ONE);
            checks.due("bits", n.bitLength(), 256);
            asReference(NOTHING, n);
            asReference(small(1181, 7159, 11801), n);
        }
        for (int i = 0; i < 256; i++) {
            cannot(NOTHING, Checks.LIMIT.subtract(ONE.shiftLeft(i)));
        }
    }

    /** Behind lines that tell these primes one by one, a line 2 by this witness is right, and by no smaller one. */
    private static void isLeastRoot(BigInteger n, int root, int[] before, int... primes) {
        checks.due("least witness of " + n, Primes.leastRoot(n, primes), root);
        Calls x = Checks.withTape(Ints.joined(before, Ints.wholeLine(n, root, primes)));
        checks.due("check() by " + root, x.check(), primes.length + 1);
        for (int a = root - 3; a < root; a++) {
            x = Checks.withTape(Ints.joined(before, Ints.wholeLine(n, a, primes)));
            checks.due("check() by " + a, x.check(), -110);
        }
    }

    private static void rootIs(BigInteger n, int root, int[] before, int... primes) {
        isLeastRoot(n, root, before, primes);
        StringBuilder line = new StringBuilder();
        for (int v : Ints.wholeLine(n, root, primes)) {
            line.append(line.length() == 0 ? "" : " ").append(v);
        }
        proves(before, n, primes.length, line.toString());
    }

    private static void rootIs(String digits, int root) {
        BigInteger n = Checks.big(digits);
        int[] primes = Primes.below(n);
        rootIs(n, root, small(primes), primes);
    }

    private static void rootIsTooLarge(String digits, int root) {
        BigInteger n = Checks.big(digits);
        int[] primes = Primes.below(n);
        isLeastRoot(n, root, small(primes), primes);
        cannot(NOTHING, n);
        cannot(small(primes), n);
    }

    /** The last witness there is: for a prime with one factor above 1009, 181891. */
    private static void rootIs200() {
        BigInteger n = Checks.big("566476754876716059786008870429096224902599073102466777239308972581");
        int[] primes = Primes.below(n);
        // Lines 0, 1, 2, 13 and 14 tell 2, 3, 5, 43 and 47.
        int[] line = Ints.line(2, of(181891), Primes.leastRoot(of(181891), 2, 3, 5, 43, 47), 5);
        int[] before = Ints.joined(Ints.joined(small(primes), line), 0, 1, 1, 2, 2, 1, 13, 1, 14, 1);
        rootIs(n, 200, before, Ints.joined(primes, 181891));
        // Without that line something is left, and each factor has a smaller witness by itself.
        asReference(small(primes), n);
    }

    private static void leastRoot() {
        checks.about("THE MAKER: a line 2, with the least a from 2 to 200 for which it is right");
        proves(NOTHING, 65539, 4, "1 2 1 3 1 11 1 331 2 1 65539 2 4 0 1 1 2 2 1 3 1");
        proves(NOTHING, 65537, 1, "1 2 2 1 65537 3 1 0 16");
        rootIs("9470788801", 197);
        rootIs("156763653064837584072843399477213601", 199);
        rootIs200();
        rootIsTooLarge("199861772158142850909940556294072227681", 201);
        rootIsTooLarge("41507617498694680511898190748277001", 202);
        checks.about("THE MAKER: nothing is left: no line 3, though each factor has a least a by itself");
        proves(NOTHING, 1990614824641L, 6, "1 2 1 3 1 5 1 13 1 31 1 389 "
                + "3 2 2044966593 463 6 0 6 43 1 2 11 2 1 2 3 1 2 4 1 2 5 1 2");
        cannot(small(4409), 1990614824641L);
    }

    /** As the factor 2's least witness is always a prime, 199 is the last one that counts, and 211 the next. */
    private static void leastWitnessOfEachFactor() {
        checks.about("THE MAKER: a line 3, with the least such a from 2 to 200 for each factor by itself");
        proves(NOTHING, 1090849, 3, "1 2 1 3 1 11 3 1 1090849 3 0 5 13 1 1 2 2 1 3");
        BigInteger n = Checks.big("1764776057787897435838049365282152131892399452807228217241");
        checks.due("least witness for 2", Primes.leastRoot(n, 2), 199);
        asReference(NOTHING, n);
        Calls x = new Calls();
        Checks.set(x, 0, n);
        int line = x.prove(0);
        checks.due("its kind", x.at(2 * line), 3);
        checks.due("its factor 2", x.at(2 * line + 9) + " " + x.at(2 * line + 10) + " " + x.at(2 * line + 11), "0 3 199");
        checks.due("its factor 3", x.at(2 * line + 12) + " " + x.at(2 * line + 14), "1 " + Primes.leastRoot(n, 3));
        n = Checks.big("710780645228369549316955266051189044999949759170276602801");
        checks.due("least witness for 2", Primes.leastRoot(n, 2), 211);
        cannot(NOTHING, n);
        // The checker takes a line by 211; only the maker looks no further than 200.
        int[] primes = Primes.below(n);
        x = Checks.withTape(Ints.joined(small(primes), Ints.partLine(n, Primes.leastRoot(n, primes), primes)));
        checks.due("check()", x.check(), primes.length + 1);
    }

    private static void noWitness() {
        checks.about("THE MAKER: It can't when there is none");
        cannot(small(53089), 386681163961L);
        cannot(small(4409), 1990614824641L);
        for (long n : new long[] {75361, 101101, 115921, 162401, 252601, 294409, 56052361, 10897931091179161L}) {
            cannot(NOTHING, n);
        }
    }

    /** N - 1 is F (F - 1), F's rest being a prime above 1009, and then F (F + 1). */
    private static void productTooSmall() {
        checks.about("THE MAKER: if F F is above N; It can't when F is too small");
        proves(NOTHING, 1886503, 3, "1 2 1 3 1 229 3 1 1886503 3 0 1 3 1 1 3 2 1 2");
        checks.due("F (F - 1) + 1", 1374 * 1373 + 1, 1886503);
        cannot(NOTHING, 1905781);
        checks.due("F (F + 1) + 1", 1380 * 1381 + 1, 1905781);
        proves(NOTHING, 1424443, 3, "1 2 1 3 1 199 3 1 1424443 3 0 1 2 1 1 3 2 1 2");
        checks.due("F (F - 1) + 1", 1194 * 1193 + 1, 1424443);
        cannot(NOTHING, 1441201);
        checks.due("F (F + 1) + 1", 1200 * 1201 + 1, 1441201);
        // With the line of what was left F is large enough: nothing is left then.
        asReference(small(1381), of(1905781));
        asReference(small(1201), of(1441201));
        checks.about("THE MAKER: F F is above N, of eight words");
        BigInteger above = Checks.big("65133050195990359925758679067386947965081428648194666127352843234406991659009");
        proves(NOTHING, above, 2, "1 2 1 3 3 8 1 0 0 1073741824 -595 -1 -1 -1879048193 2 0 126 11 1 1 2");
        cannot(NOTHING, Checks.big("65133050195990359925758679067386948193240755668683905879545517517407577440257"));
        asReference(NOTHING, ONE.shiftLeft(56).subtract(of(795)).shiftLeft(200).add(ONE));
    }

    private static void manyFactors(String what, int[] before, BigInteger n, int answer, int kind, int m) {
        Calls x = Checks.withTape(before);
        Checks.set(x, 0, n);
        checks.due("prove by " + what, x.prove(0), answer);
        if (answer == NO) {
            checks.due("length() behind " + what, x.length(), before.length);
            checks.due("check() behind " + what, x.check(), before.length / 2);
            return;
        }
        int start = 2 * answer;
        int words = x.at(start + 1);
        checks.due("kind by " + what, x.at(start), kind);
        checks.due("m by " + what, x.at(start + words + (kind == 2 ? 3 : 2)), m);
        checks.due("length() behind " + what, x.length(), start + words + (kind == 2 ? 4 + 2 * m : 3 + 3 * m));
        checks.due("check() by " + what, Checks.copyOfTape(x).check(), answer + 1);
    }

    private static void fortyFactors() {
        checks.about("THE MAKER: It can't when there would be more than 40 factors");
        BigInteger n = Primes.above(Primes.product(39), 1);
        manyFactors("39 factors", NOTHING, n, 39, 2, 39);
        n = Primes.above(Primes.product(40), 1);
        manyFactors("40 factors", NOTHING, n, 40, 2, 40);
        manyFactors("40 factors, all told", small(Primes.first(40)), n, 40, 2, 40);
        manyFactors("40 factors, another told", small(1013), n, 41, 2, 40);
        n = Primes.above(Primes.product(41), 1);
        manyFactors("41 factors", NOTHING, n, NO, 2, 41);
        manyFactors("41 factors, all told", small(Primes.first(41)), n, NO, 2, 41);
        n = Primes.above(Primes.product(40).multiply(of(1013)), 1);
        manyFactors("40 factors and what is left", NOTHING, n, 40, 3, 40);
        manyFactors("40 factors and one of a line", small(1013), n, NO, 2, 41);
        n = Primes.above(Primes.product(39).multiply(of(1013)), 1);
        manyFactors("39 factors and one of a line", small(1013), n, 40, 2, 40);
        n = Primes.above(Primes.product(41).multiply(of(1013)), 1);
        manyFactors("41 factors and what is left", NOTHING, n, NO, 3, 41);
    }

    /** So many lines that tell p. */
    private static Calls withLines(int lines, int p) {
        Calls x = new Calls();
        for (int i = 0; i < lines; i++) {
            Checks.say(x, 1, p);
        }
        return x;
    }

    private static void adds(String what, Calls x, long n, int lines, int length) {
        Checks.set(x, 7, n);
        int before = x.length();
        checks.due("prove " + n + " " + what, x.prove(7), lines - 1);
        checks.due("length() " + what, x.length(), length);
        checks.due("longer " + what, length > before, true);
        checks.due("place() " + what, x.place(), NO);
        checks.due("tell() " + what, x.tell(lines - 1, 6), true);
        checks.due("told " + what, Checks.number(x, 6), of(n));
        checks.due("tell() of no line " + what, x.tell(lines, 6), false);
        checks.due("check() " + what, x.check(), lines);
    }

    private static void addsNothing(String what, Calls x, long n) {
        Checks.set(x, 7, n);
        int lines = x.check();
        int before = x.length();
        int last = x.at(before - 1);
        checks.due("prove " + n + " " + what, x.prove(7), NO);
        checks.due("length() " + what, x.length(), before);
        checks.due("last int " + what, x.at(before - 1), last);
        checks.due("no int " + what, x.at(before), 0);
        checks.due("place() " + what, x.place(), NO);
        checks.due("tell() " + what, x.tell(lines - 1, 6), true);
        checks.due("tell() of no line " + what, x.tell(lines, 6), false);
        checks.due("check() " + what, x.check(), lines);
        checks.due("register " + what, Checks.number(x, 7), of(n));
    }

    private static void twoHundredLines() {
        checks.about("THE MAKER: It can't when there would be more than 200 lines");
        adds("by line 199", withLines(199, 3), 5, 200, 400);
        addsNothing("by line 200", withLines(200, 3), 5);
        adds("by a line 2, line 199", withLines(199, 2), 65537, 200, 405);
        addsNothing("by a line 2, line 200", withLines(200, 2), 65537);
        adds("by lines 198 and 199", withLines(198, 3), 65537, 200, 405);
        addsNothing("by lines 199 and 200", withLines(199, 3), 65537);
        addsNothing("by lines 200 and 201", withLines(200, 3), 65537);
        adds("by lines 196 to 199", withLines(196, 3), 65539, 200, 392 + 6 + 13);
        addsNothing("by lines 197 to 200", withLines(197, 3), 65539);
        addsNothing("by lines 198 to 201", withLines(198, 3), 65539);
        adds("by lines 197 to 199, a line 3", withLines(197, 3), 1090849, 200, 394 + 4 + 13);
        addsNothing("by lines 198 to 200, a line 3", withLines(198, 3), 1090849);
        checks.about("THE MAKER: 200 lines, and one of them tells N");
        Calls x = withLines(200, 3);
        x.put(7, 0, 3);
        checks.due("prove(7)", x.prove(7), 0);
        checks.due("length()", x.length(), 400);
    }

    /** On a tape of right lines, the first 40 primes told: just enough room, one int more, one less. */
    private static void room(String what, long n, int newLines, String line) {
        int needed = 2 * (newLines - 1) + line.split(" ").length;
        for (int spare = 0; spare <= 1; spare++) {
            Calls x = FullTape.of(4000 - needed - spare);
            int lines = x.check();
            String due = line.replace("L", Integer.toString(lines));
            adds(what + ", spare " + spare, x, n, lines + newLines, 4000 - spare);
            checks.due("line " + what, Checks.tail(x, 4000 - spare - due.split(" ").length), due);
            checks.due("say()", x.say(1), spare == 0 ? FULL : 4000);
        }
        addsNothing(what + ", an int too few", FullTape.of(4000 - needed + 1), n);
        addsNothing(what + ", two ints too few", FullTape.of(4000 - needed + 2), n);
    }

    private static void fourThousandInts() {
        checks.about("THE MAKER: It can't when there would be more than 4000 ints");
        room("a line 1", 65521, 1, "1 65521");
        room("a line 2", 65537, 1, "2 1 65537 3 1 0 16");
        room("a line 1 and a line 2", 72649, 2, "2 1 72649 7 3 0 3 1 2 L 1");
        room("a line 3", 1090849, 1, "3 1 1090849 3 0 5 13 1 1 2 4 1 3");
        room("a line 1 and a line 3", 1886503, 2, "3 1 1886503 3 0 1 3 1 1 3 L 1 2");
    }

    private static void toldOnAFullTape() {
        checks.about("THE MAKER: 4000 ints, and a line tells N");
        Calls x = FullTape.of(4000);
        x.put(7, 0, 173);
        checks.due("prove(7)", x.prove(7), 39);
        checks.due("prove(0)", x.prove(0) > 39, true);
        checks.due("length()", x.length(), 4000);
        addsNothing("on a full tape", x, 65521);
    }

    private static void noRegister() {
        checks.about("18: BAD, ahead of all, when there is no such register (place() and tell() stay then)");
        for (int register : new int[] {-1, 8, 9, Integer.MIN_VALUE, Integer.MAX_VALUE}) {
            Calls x = Checks.withTape(1, 3, 1, 4);
            checks.due("prove(" + register + ") ahead of a check", x.prove(register), PrimeCertificates.BAD);
            checks.due("place()", x.place(), NO);
            checks.due("tell()", x.tell(0, 0), false);
            checks.due("check()", x.check(), -103);
            checks.due("prove(" + register + ") at fault", x.prove(register), PrimeCertificates.BAD);
            checks.due("place() stays", x.place(), 3);
            checks.due("tell() stays", x.tell(0, 0), false);
            x.cut(2);
            checks.due("prove(" + register + ") on a right tape", x.prove(register), PrimeCertificates.BAD);
            checks.due("place() stays", x.place(), 3);
            checks.due("tell() stays", x.tell(0, 0), false);
            checks.due("check()", x.check(), 1);
            Checks.say(x, 1, 4);
            checks.due("prove(" + register + ") on a wrong tape", x.prove(register), PrimeCertificates.BAD);
            checks.due("place() stays", x.place(), NO);
            checks.due("tell() stays", x.tell(0, 0), true);
            checks.due("length() stays", x.length(), 4);
        }
        checks.about("18: THE MAKER takes a register's number: any of 0 .. 7");
        for (int register = 0; register < 8; register++) {
            Calls x = new Calls();
            x.put(register, 0, 65521);
            checks.due("prove(" + register + ")", x.prove(register), 0);
            checks.due("tape", Checks.tape(x), "1 65521");
        }
    }

    private static void notRight() {
        checks.about("18: -100 - fault when the certificate is not right");
        for (int n : new int[] {0, 2, 4, 5, 65537, -1}) {
            Calls x = Checks.withTape(1, 2, 2, 1, 7, 2, 1);
            x.put(0, 0, n);
            checks.due("prove " + n, x.prove(0), -101);
            checks.due("place()", x.place(), 7);
            checks.due("tell()", x.tell(0, 1), false);
            checks.due("tape", Checks.tape(x), "1 2 2 1 7 2 1");
            checks.due("register", x.get(0, 0), n);
            x.cut(2);
            checks.due("prove, the tape mended", x.prove(0) == NO, n == 0 || n == 4 || n == -1);
            checks.due("place()", x.place(), NO);
            checks.due("tell()", x.tell(0, 1), true);
        }
    }

    private static void notPrime() {
        checks.about("18: NO when it can't (also of numbers that are not prime)");
        for (long n : new long[] {0, 1, 4, 6, 9, 65533, 65535, 65536, 65541, 65553, 1027183, 4294967295L, 4294967297L}) {
            cannot(NOTHING, n);
            cannot(small(2, 3, 5), n);
        }
        for (int i = 1; i < 8; i++) {
            cannot(small(2), ONE.shiftLeft(32 * i));
            cannot(small(2), ONE.shiftLeft(32 * i).add(ONE));
        }
        // Products of two primes that lines tell.
        cannot(small(1013, 1019), 1013 * 1019);
        cannot(small(65521), 65521L * 65521);
        cannot(NOTHING, Checks.LIMIT.subtract(ONE));
    }
}
