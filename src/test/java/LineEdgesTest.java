import java.math.BigInteger;
import java.util.Arrays;

/** Terms (a CERTIFICATE and its LINES), THE CHECKER, and promises 15 to 17, each sentence at its edges. */
public final class LineEdgesTest {
    private static final int NO = PrimeCertificates.NO;
    private static final int LEAST = Integer.MIN_VALUE;
    private static final int MOST = Integer.MAX_VALUE;
    private static final BigInteger ONE = BigInteger.ONE;
    /** Lines 0 to 3 tell 2, 3, 5 and 7; the lines that are tried come behind them. */
    private static final int[] PRIMES = {1, 2, 1, 3, 1, 5, 1, 7};

    private static final Checks checks = new Checks("LineEdgesTest");

    public static void main(String[] args) {
        smallPrimes();
        firstInts();
        howManyWords();
        highestWord();
        atLeastThree();
        numbersUpToTheLimit();
        witnessesFromTwo();
        witnessesBelowTheNumber();
        howManyFactors();
        linesBefore();
        exponents();
        numbersGoUp();
        productIsOneLess();
        productDivides();
        squareIsAbove();
        closing();
        parting();
        tapeEnds();
        atMost200();
        orderOfWholeLines();
        orderOfPartLines();
        orderOfLines();
        answersOfCheck();
        places();
        tells();
        toldStays();
        checks.finish();
    }

    private static void right(long number, int... line) {
        rightBehind(PRIMES, 4, BigInteger.valueOf(number), line);
    }

    private static void rightBehind(int[] start, int lines, BigInteger number, int... line) {
        int[] tape = Ints.joined(start, line);
        String text = Arrays.toString(line);
        Calls x = Checks.withTape(tape);
        checks.due("check() of " + text, x.check(), lines + 1);
        checks.due("place() of " + text, x.place(), NO);
        checks.due("tell() of " + text, x.tell(lines, 5), true);
        checks.due("told of " + text, Checks.number(x, 5), number);
        checks.due("tell() of no line", x.tell(lines + 1, 5), false);
        checks.due("tell() of line 0", x.tell(0, 5), true);
        checks.due("length()", x.length(), tape.length);
    }

    /** place counts from the start of the line. */
    private static void fault(int fault, int place, int... line) {
        faultBehind(PRIMES, fault, place, line);
    }

    /** Neither check() nor prove() changes anything but place() and tell(), and asked again they answer the same. */
    private static void faultBehind(int[] start, int fault, int place, int... line) {
        int[] tape = Ints.joined(start, line);
        String text = Arrays.toString(line);
        Calls x = Checks.withTape(start);
        checks.due("check() ahead", x.check() >= 0, true);
        Checks.say(x, line);
        Checks.set(x, 5, 77);
        checks.due("check() of " + text, x.check(), -100 - fault);
        seeFault(x, text, start.length + place, tape.length);
        checks.due("check() again of " + text, x.check(), -100 - fault);
        seeFault(x, text, start.length + place, tape.length);
        // A new object, so that nothing is known of the lines ahead.
        x = Checks.withTape(tape);
        Checks.set(x, 5, 77);
        checks.due("prove() on " + text, x.prove(5), -100 - fault);
        seeFault(x, text, start.length + place, tape.length);
        checks.due("prove() again on " + text, x.prove(5), -100 - fault);
        seeFault(x, text, start.length + place, tape.length);
        checks.due("register 5 behind " + text, Checks.number(x, 5), BigInteger.valueOf(77));
    }

    private static void seeFault(Calls x, String text, int place, int length) {
        checks.due("place() of " + text, x.place(), place);
        checks.due("tell(0, 5) of " + text, x.tell(0, 5), false);
        checks.due("length() behind " + text, x.length(), length);
        checks.due("last int behind " + text, x.at(length), 0);
        checks.due("register 5 behind " + text, x.get(5, 0), 77);
    }

    private static void smallPrimes() {
        checks.about("Terms: p, from 2 to 65535; fault 3 at it");
        right(2, 1, 2);
        right(65521, 1, 65521);
        for (int p : new int[] {1, 0, -1, -2, -3, 65536, 65537, 65539, LEAST, LEAST + 3, MOST}) {
            fault(3, 1, 1, p);
        }
        checks.about("Terms: that no number from 2 to p - 1 divides");
        boolean[] divided = new boolean[66000];
        for (int d = 2; d < 300; d++) {
            for (int p = 2 * d; p < divided.length; p += d) {
                divided[p] = true;
            }
        }
        Calls x = new Calls();
        for (int p = 0; p < divided.length; p++) {
            x = x.left() < 5 ? new Calls() : x;
            boolean right = p >= 2 && p <= 65535 && !divided[p];
            x.say(1);
            x.say(p);
            checks.due("check() of " + p, x.check(), right ? 1 : -103);
            checks.due("place() of " + p, x.place(), right ? NO : 1);
            x.cut(0);
        }
    }

    private static void firstInts() {
        checks.about("fault 2: a line's first one; at it");
        right(11, 1, 11);
        right(11, 2, 1, 11, 2, 2, 0, 1, 2, 1);
        right(11, 3, 1, 11, 1, 2, 1, 2);
        for (int first : new int[] {0, -1, -2, 4, 5, LEAST, MOST}) {
            fault(2, 0, first);
            fault(2, 0, first, 11);
            fault(2, 0, first, 1, 11, 2, 2, 0, 1, 2, 1);
            faultBehind(new int[0], 2, 0, first);
        }
    }

    private static int[] numberLine(int kind, int words, int lowest, int highest) {
        int[] line = new int[2 + words];
        line[0] = kind;
        line[1] = words;
        line[2] = lowest;
        line[1 + words] = words == 1 ? lowest : highest;
        return line;
    }

    private static void howManyWords() {
        checks.about("Terms: how many words (1 .. 8); fault 2 at it");
        for (int kind = 2; kind <= 3; kind++) {
            for (int words = 1; words <= 8; words++) {
                // Taken: the tape ends only behind the words.
                fault(1, 2 + words, numberLine(kind, words, 7, 1));
                fault(1, 1 + words, Arrays.copyOf(numberLine(kind, words, 7, 1), 1 + words));
            }
            for (int words : new int[] {0, -1, 9, 10, LEAST, MOST}) {
                fault(2, 1, kind, words);
                fault(2, 1, kind, words, 1, 2, 3, 4, 5, 6, 7, 8, 9, 10);
            }
        }
        right(3, 2, 1, 3, 2, 1, 0, 1);
        right(3, 3, 1, 3, 1, 0, 1, 2);
        for (int words = 2; words <= 8; words++) {
            int twos = 32 * words - 20;
            BigInteger n = ONE.shiftLeft(twos).add(ONE);
            while (!n.isProbablePrime(50) || Ints.exponent(n, 2) != twos) {
                n = n.add(ONE.shiftLeft(twos));
            }
            checks.due("words", Ints.words(n)[0], words);
            rightBehind(PRIMES, 4, n, Ints.line(3, n, 1, 0, twos, Primes.leastRoot(n, 2)));
        }
    }

    private static void highestWord() {
        checks.about("Terms: the highest not 0; fault 2 at it");
        for (int kind = 2; kind <= 3; kind++) {
            for (int words = 1; words <= 8; words++) {
                fault(2, 1 + words, numberLine(kind, words, words == 1 ? 0 : 7, 0));
                fault(2, 1 + words, Ints.joined(numberLine(kind, words, words == 1 ? 0 : 7, 0), 2, 1, 0, 1));
                fault(1, 2 + words, numberLine(kind, words, words == 1 ? -1 : 0, -1));
                fault(1, 2 + words, numberLine(kind, words, words == 1 ? LEAST : 0, LEAST));
            }
        }
        // All the others may be 0: 3 2^189 + 1 has four of them.
        right(3L << 41 | 1, 2, 2, 1, 3 << 9, 5, 2, 0, 41, 1, 1);
        BigInteger six = BigInteger.valueOf(3).shiftLeft(189).add(ONE);
        rightBehind(PRIMES, 4, six, 2, 6, 1, 0, 0, 0, 0, 3 << 29, 10, 2, 0, 189, 1, 1);
        rightBehind(PRIMES, 4, six, 3, 6, 1, 0, 0, 0, 0, 3 << 29, 1, 0, 189, 10);
    }

    private static void atLeastThree() {
        checks.about("Terms: at least 3; fault 4 at how many words it has");
        right(3, 2, 1, 3, 2, 1, 0, 1);
        right(3, 3, 1, 3, 1, 0, 1, 2);
        for (int kind = 2; kind <= 3; kind++) {
            for (int number = 1; number <= 2; number++) {
                fault(4, 1, kind, 1, number);
                fault(4, 1, kind, 1, number, 2, 1, 0, 1);
                fault(4, 1, kind, 1, number, 0, 0, 0, 0);
            }
            // 0 has a highest word 0, and that goes ahead.
            fault(2, 2, kind, 1, 0);
            // A word is not below 0, and other words may be below 3.
            fault(1, 3, kind, 1, 3);
            fault(1, 3, kind, 1, -1);
            fault(1, 3, kind, 1, LEAST);
            fault(1, 4, kind, 2, 0, 1);
            fault(1, 4, kind, 2, 1, 1);
            fault(1, 4, kind, 2, 2, 2);
            fault(1, 10, kind, 8, 0, 0, 0, 0, 0, 0, 0, 1);
            fault(1, 10, kind, 8, 2, 0, 0, 0, 0, 0, 0, -1);
        }
    }

    /** (2^56 - 178) 2^200 + 1 and (2^56 - 193) 2^200 + 1 are primes just below 2^256. */
    private static void numbersUpToTheLimit() {
        checks.about("Terms: NUMBERS are below 2^256: on lines too");
        for (int less : new int[] {178, 193}) {
            BigInteger top = ONE.shiftLeft(56).subtract(BigInteger.valueOf(less));
            BigInteger n = top.shiftLeft(200).add(ONE);
            int twos = 200 + top.getLowestSetBit();
            int a = 2;
            while (BigInteger.valueOf(a).modPow(n.shiftRight(1), n).equals(ONE)) {
                a++;
            }
            rightBehind(PRIMES, 4, n, Ints.line(3, n, 1, 0, twos, a));
            faultBehind(PRIMES, 6, 10, Ints.line(3, n, 1, 0, twos + 1, a));
        }
        // The largest number there is, at fault only behind its words.
        BigInteger most = Checks.LIMIT.subtract(ONE);
        faultBehind(PRIMES, 6, 11, Ints.line(2, most, 2, 1, 0, 255));
        faultBehind(PRIMES, 7, 10, Ints.line(3, most, 1, 0, 1, 2));
    }

    private static void witnessesFromTwo() {
        checks.about("Terms: a number from 2 on; fault 8 at it");
        right(5, 2, 1, 5, 2, 1, 0, 2);
        right(5, 3, 1, 5, 1, 0, 2, 2);
        for (int a : new int[] {1, 0, -1, -2, LEAST, LEAST + 2}) {
            fault(8, 3, 2, 1, 5, a);
            fault(8, 3, 2, 1, 5, a, 1, 0, 2);
            fault(8, 6, 3, 1, 5, 1, 0, 2, a);
            fault(8, 4, 2, 2, 1, 3 << 9, a, 2, 0, 41, 1, 1);
            fault(8, 7, 3, 2, 1, 3 << 9, 1, 0, 41, a);
        }
    }

    private static void witnessesBelowTheNumber() {
        checks.about("Terms: and below N; fault 8 at it");
        // 2 is below 3, and 3 is not.
        right(3, 2, 1, 3, 2, 1, 0, 1);
        fault(8, 3, 2, 1, 3, 3, 1, 0, 1);
        right(3, 3, 1, 3, 1, 0, 1, 2);
        fault(8, 6, 3, 1, 3, 1, 0, 1, 3);
        // N - 1 is a number below N, of order 2.
        fault(10, 7, 2, 1, 7, 6, 2, 0, 1, 1, 1);
        for (int a : new int[] {7, 8, 65536, MOST}) {
            fault(8, 3, 2, 1, 7, a, 2, 0, 1, 1, 1);
            fault(8, 6, 3, 1, 7, 1, 1, 1, a);
        }
        right(7, 3, 1, 7, 2, 0, 1, 6, 1, 1, 2);
        fault(8, 6, 3, 1, 7, 2, 0, 1, 7, 1, 1, 2);
        fault(8, 9, 3, 1, 7, 2, 0, 1, 6, 1, 1, 7);
        // The largest int there is: not below 2^31 - 1, but below 2^31 and numbers of more words.
        fault(6, 4, 2, 1, MOST, MOST - 1, 1, 0, 1);
        fault(8, 3, 2, 1, MOST, MOST, 1, 0, 1);
        fault(6, 4, 2, 1, LEAST, MOST, 1, 0, 1);
        fault(6, 4, 2, 1, -1, MOST, 1, 0, 1);
        fault(6, 5, 2, 2, 1, 1, MOST, 1, 0, 1);
        int[] start = {1, 2, 1, 151, 1, 331};
        faultBehind(start, 10, 4, 3, 1, MOST, 2, 1, 1, MOST - 1, 2, 1, MOST - 1);
        faultBehind(start, 8, 6, 3, 1, MOST, 2, 1, 1, MOST, 2, 1, MOST - 1);
        faultBehind(start, 8, 9, 3, 1, MOST, 2, 1, 1, MOST - 1, 2, 1, MOST);
        right(3L << 30 | 1, 3, 1, 3 << 30 | 1, 1, 0, 30, MOST);
    }

    private static void howManyFactors() {
        checks.about("Terms: m (1 .. 40); fault 2 at it");
        right(3, 2, 1, 3, 2, 1, 0, 1);
        right(13, 3, 1, 13, 1, 0, 2, 2);
        for (int m : new int[] {0, -1, -40, 41, 42, 255, LEAST, MOST}) {
            fault(2, 4, 2, 1, 7, 3, m);
            fault(2, 4, 2, 1, 7, 3, m, 0, 1, 1, 1);
            fault(2, 3, 3, 1, 7, m);
            fault(2, 3, 3, 1, 7, m, 0, 1, 6, 1, 1, 2);
        }
        BigInteger n = Primes.above(Primes.product(40), 1);
        int[] primes = Primes.first(40);
        int[] start = Ints.smallLines(primes);
        int root = Primes.leastRoot(n, primes);
        rightBehind(start, 40, n, Ints.wholeLine(n, root, primes));
        rightBehind(start, 40, n, Ints.partLine(n, root, primes));
        n = Primes.above(Primes.product(41), 1);
        primes = Primes.first(41);
        start = Ints.smallLines(primes);
        root = Primes.leastRoot(n, primes);
        faultBehind(start, 2, 11, Ints.wholeLine(n, root, primes));
        faultBehind(start, 2, 10, Ints.partLine(n, root, primes));
    }

    private static void linesBefore() {
        checks.about("Terms: a line l before this one; fault 2 at it");
        // 29 is 7 2^2 + 1: line 3 is the last one ahead, and line 4 is this line.
        right(29, 2, 1, 29, 2, 2, 0, 2, 3, 1);
        right(29, 3, 1, 29, 1, 3, 1, 2);
        for (int l : new int[] {4, 5, 200, -1, LEAST, MOST}) {
            fault(2, 7, 2, 1, 29, 2, 2, 0, 2, l, 1);
            fault(2, 5, 2, 1, 29, 2, 2, l);
            fault(2, 4, 3, 1, 29, 1, l, 1, 2);
            fault(2, 7, 3, 1, 29, 2, 0, 2, 2, l);
        }
        for (int l : new int[] {0, 1, -1}) {
            faultBehind(new int[0], 2, 5, 2, 1, 3, 2, 1, l, 1);
            faultBehind(new int[0], 2, 4, 3, 1, 3, 1, l, 1, 2);
        }
        int[] two = {1, 2};
        rightBehind(two, 1, BigInteger.valueOf(3), 2, 1, 3, 2, 1, 0, 1);
        faultBehind(two, 2, 5, 2, 1, 3, 2, 1, 1, 1);
        // A line that was cut is none that stands before.
        Calls x = Checks.withTape(Ints.joined(PRIMES, 2, 1, 29, 2, 2, 0, 2, 3, 1));
        checks.due("check()", x.check(), 5);
        x.cut(6);
        Checks.say(x, 2, 1, 29, 2, 2, 0, 2, 3, 1);
        checks.due("check()", x.check(), -102);
        checks.due("place()", x.place(), 13);
    }

    private static void exponents() {
        checks.about("Terms: an exponent e (1 .. 255); fault 2 at it");
        right(3, 2, 1, 3, 2, 1, 0, 1);
        right(3, 3, 1, 3, 1, 0, 1, 2);
        // 2^255 is one less than 2^255 + 1, for which only 9 is at fault.
        BigInteger n = ONE.shiftLeft(255).add(ONE);
        fault(9, 10, Ints.line(2, n, 2, 1, 0, 255));
        fault(9, 13, Ints.line(3, n, 1, 0, 255, 2));
        fault(6, 11, Ints.line(2, n, 2, 1, 0, 254));
        for (int e : new int[] {0, -1, 256, 257, LEAST, MOST}) {
            fault(2, 13, Ints.line(2, n, 2, 1, 0, e));
            fault(2, 12, Ints.line(3, n, 1, 0, e, 2));
            fault(2, 8, 2, 1, 7, 3, 2, 0, 1, 1, e);
            fault(2, 8, 3, 1, 7, 2, 0, 1, 6, 1, e, 2);
        }
    }

    private static void numbersGoUp() {
        checks.about("Terms: their numbers p go up; fault 5 at l");
        right(31, 2, 1, 31, 3, 3, 0, 1, 1, 1, 2, 1);
        right(31, 3, 1, 31, 3, 0, 1, 3, 1, 1, 3, 2, 1, 2);
        // The same number again, and a smaller one, as second and as last factor.
        fault(5, 7, 2, 1, 31, 3, 3, 1, 1, 1);
        fault(5, 7, 2, 1, 31, 3, 3, 1, 1, 0, 1, 2, 1);
        fault(5, 9, 2, 1, 31, 3, 3, 0, 1, 2, 1, 1, 1);
        fault(5, 9, 2, 1, 31, 3, 3, 0, 1, 2, 1, 2, 1);
        fault(5, 7, 3, 1, 31, 3, 1, 1, 3, 1);
        fault(5, 7, 3, 1, 31, 3, 1, 1, 3, 0, 1, 3, 2, 1, 2);
        fault(5, 10, 3, 1, 31, 3, 0, 1, 3, 2, 1, 2, 1, 1, 3);
        // Numbers count, not lines: two lines for 2, and lines that go down for numbers that go up.
        int[] twice = {1, 2, 1, 2};
        faultBehind(twice, 5, 7, 2, 1, 5, 2, 2, 0, 1, 1, 1);
        faultBehind(twice, 5, 7, 2, 1, 5, 2, 2, 1, 1, 0, 1);
        int[] down = {1, 3, 1, 2};
        rightBehind(down, 2, BigInteger.valueOf(7), 2, 1, 7, 3, 2, 1, 1, 0, 1);
        faultBehind(down, 5, 7, 2, 1, 7, 3, 2, 0, 1, 1, 1);
        numbersOfHighBitsGoUp();
    }

    /** As ints the number 3 2^30 + 1 is below 0, and the lowest word of 3 2^41 + 1 is below 3. */
    private static void numbersOfHighBitsGoUp() {
        int[] start = {1, 2, 1, 3, 2, 1, 3 << 30 | 1, 5, 2, 0, 30, 1, 1, 2, 2, 1, 3 << 9, 5, 2, 0, 41, 1, 1};
        BigInteger first = BigInteger.valueOf(3L << 30 | 1);
        BigInteger second = BigInteger.valueOf(3L << 41 | 1);
        BigInteger step = first.multiply(second).shiftLeft(1);
        BigInteger n = step.add(ONE);
        while (!n.isProbablePrime(50)) {
            n = n.add(step);
        }
        int a = 2;
        while (gives(a, n, first) || gives(a, n, second)) {
            a++;
        }
        rightBehind(start, 4, n, Ints.line(3, n, 2, 2, 1, a, 3, 1, a));
        int place = 2 + (n.bitLength() + 31) / 32 + 1;
        faultBehind(start, 5, place + 3, Ints.line(3, n, 2, 3, 1, a, 2, 1, a));
        faultBehind(start, 5, place + 3, Ints.line(3, n, 2, 2, 1, a, 1, 1, a));
        faultBehind(start, 5, place + 3, Ints.line(3, n, 2, 3, 1, a, 1, 1, a));
    }

    private static boolean gives(int a, BigInteger n, BigInteger p) {
        return BigInteger.valueOf(a).modPow(n.subtract(ONE).divide(p), n).equals(ONE);
    }

    private static void productIsOneLess() {
        checks.about("Terms: The product of all p^e is N - 1; fault 6 at m");
        right(13, 2, 1, 13, 2, 2, 0, 2, 1, 1);
        // N - 1 itself, its half, its double, and one number next to it on either side.
        fault(6, 4, 2, 1, 13, 2, 2, 0, 1, 1, 1);
        fault(6, 4, 2, 1, 13, 2, 2, 0, 3, 1, 1);
        fault(6, 4, 2, 1, 11, 2, 1, 1, 2);
        fault(6, 4, 2, 1, 14, 3, 2, 0, 2, 1, 1);
        fault(6, 4, 2, 1, 12, 5, 2, 0, 2, 1, 1);
        fault(6, 4, 2, 1, 13, 2, 1, 0, 2);
        // No wrap-around: 3 2^255 would be 2^255 in eight words, and 2^256 would be 0.
        BigInteger n = ONE.shiftLeft(255).add(ONE);
        fault(6, 11, Ints.line(2, n, 3, 2, 0, 255, 1, 1));
        fault(6, 11, Ints.line(2, n, 3, 1, 3, 255));
        fault(6, 4, 2, 1, 5, 2, 2, 0, 255, 1, 255);
    }

    private static void productDivides() {
        checks.about("Terms: the product F divides N - 1; fault 6 at m");
        right(13, 3, 1, 13, 1, 0, 2, 2);
        right(13, 3, 1, 13, 2, 0, 2, 2, 1, 1, 2);
        right(13, 3, 1, 13, 2, 0, 1, 2, 1, 1, 2);
        fault(6, 3, 3, 1, 13, 1, 0, 3, 2);
        fault(6, 3, 3, 1, 13, 1, 1, 2, 2);
        fault(6, 3, 3, 1, 13, 1, 2, 1, 2);
        fault(6, 3, 3, 1, 13, 2, 0, 2, 2, 1, 2, 2);
        fault(6, 3, 3, 1, 14, 2, 0, 2, 3, 1, 1, 3);
        fault(6, 3, 3, 1, 12, 2, 0, 2, 5, 1, 1, 5);
        // No wrap-around.
        BigInteger n = ONE.shiftLeft(255).add(ONE);
        fault(6, 10, Ints.line(3, n, 2, 0, 255, 3, 1, 1, 3));
        fault(6, 10, Ints.line(3, n, 1, 3, 255, 3));
    }

    /** F goes into N - 1 at most F - 1 times just when F F is above N. */
    private static void squareIsAbove() {
        checks.about("Terms: F F is above N; fault 7 at m");
        right(3, 3, 1, 3, 1, 0, 1, 2);
        fault(7, 3, 3, 1, 5, 1, 0, 1, 2);
        right(7, 3, 1, 7, 1, 1, 1, 2);
        fault(7, 3, 3, 1, 10, 1, 1, 1, 2);
        right(13, 3, 1, 13, 1, 0, 2, 2);
        fault(7, 3, 3, 1, 17, 1, 0, 2, 3);
        right(31, 3, 1, 31, 2, 0, 1, 3, 1, 1, 3);
        fault(7, 3, 3, 1, 37, 2, 0, 1, 2, 1, 1, 2);
        right(43, 3, 1, 43, 1, 3, 1, 2);
        fault(7, 3, 3, 1, 50, 1, 3, 1, 2);
        // Of eight words: F is 2^127 and then 2^128, whose square no eight words hold.
        BigInteger f = ONE.shiftLeft(127);
        fault(9, 13, Ints.line(3, f.multiply(f).subtract(f).add(ONE), 1, 0, 127, 3));
        fault(7, 10, Ints.line(3, f.multiply(f).add(ONE), 1, 0, 127, 3));
        f = ONE.shiftLeft(128);
        fault(9, 13, Ints.line(3, f.multiply(f).subtract(f).add(ONE), 1, 0, 128, 3));
        fault(7, 10, Ints.line(3, f.multiply(f).subtract(f).add(ONE), 1, 0, 127, 3));
    }

    private static void closing() {
        checks.about("Terms: a^(N - 1) is 1 modulo N; fault 9 at a");
        right(11, 2, 1, 11, 2, 2, 0, 1, 2, 1);
        fault(9, 3, 2, 1, 9, 2, 1, 0, 3);
        fault(9, 3, 2, 1, 15, 2, 2, 0, 1, 3, 1);
        fault(9, 3, 2, 1, 4, 2, 1, 1, 1);
        right(13, 3, 1, 13, 2, 0, 2, 2, 1, 1, 6);
        fault(9, 6, 3, 1, 9, 1, 0, 3, 2);
        fault(9, 6, 3, 1, 15, 2, 0, 1, 2, 3, 1, 4);
        // Of the second factor; the first one's witness is right.
        fault(9, 9, 3, 1, 15, 2, 0, 1, 14, 3, 1, 2);
    }

    private static void parting() {
        checks.about("Terms: for each factor a^((N - 1) / p) is not 1; fault 10 at its l");
        right(31, 2, 1, 31, 3, 3, 0, 1, 1, 1, 2, 1);
        // 2, 29 and 6 have the orders 5, 10 and 6: the first factor at fault is told.
        fault(10, 5, 2, 1, 31, 2, 3, 0, 1, 1, 1, 2, 1);
        fault(10, 7, 2, 1, 31, 29, 3, 0, 1, 1, 1, 2, 1);
        fault(10, 9, 2, 1, 31, 6, 3, 0, 1, 1, 1, 2, 1);
        checks.about("Terms: a^((N - 1) / p) - 1 and N have no divisor above 1 in common; fault 10 at its l");
        right(31, 3, 1, 31, 3, 0, 1, 30, 1, 1, 5, 2, 1, 2);
        fault(10, 4, 3, 1, 31, 3, 0, 1, 2, 1, 1, 5, 2, 1, 2);
        fault(10, 7, 3, 1, 31, 3, 0, 1, 30, 1, 1, 2, 2, 1, 2);
        fault(10, 10, 3, 1, 31, 3, 0, 1, 30, 1, 1, 5, 2, 1, 6);
        // 4^7 is 4 modulo 15: not 1, and right for 2 on a line 2, but 3 divides 4 - 1.
        fault(10, 7, 2, 1, 15, 4, 2, 0, 1, 3, 1);
        fault(10, 4, 3, 1, 15, 2, 0, 1, 4, 3, 1, 4);
        // 14^7 is 14, and 13 has no divisor with 15 in common; 14^2 is 1.
        fault(10, 7, 3, 1, 15, 2, 0, 1, 14, 3, 1, 14);
    }

    private static void tapeEnds() {
        checks.about("fault 1: the tape ends within a line (its length)");
        int[][] lines = {
            {1, 11},
            {2, 1, 31, 3, 3, 0, 1, 1, 1, 2, 1},
            {3, 1, 31, 3, 0, 1, 3, 1, 1, 3, 2, 1, 2},
            {2, 2, 1, 3 << 9, 5, 2, 0, 41, 1, 1},
            {3, 2, 1, 3 << 9, 1, 0, 41, 5},
        };
        for (int[] line : lines) {
            for (int n = 1; n < line.length; n++) {
                fault(1, n, Arrays.copyOf(line, n));
            }
            rightBehind(PRIMES, 4, told(line), line);
        }
        faultBehind(new int[0], 1, 1, 1);
        faultBehind(new int[0], 1, 1, 2);
        faultBehind(new int[0], 1, 1, 3);
    }

    private static BigInteger told(int[] line) {
        return BigInteger.valueOf(line[0] == 1 ? line[1] : line[1] == 1 ? line[2] : 3L << 41 | 1);
    }

    private static Calls withSmallLines(int lines) {
        Calls x = new Calls();
        for (int i = 0; i < lines; i++) {
            Checks.say(x, 1, 3);
        }
        return x;
    }

    private static void atMost200() {
        checks.about("THE CHECKER: at most 200; fault 2: a line too many, at its first int");
        for (int lines = 198; lines <= 200; lines++) {
            Calls x = withSmallLines(lines);
            checks.due("check() of " + lines, x.check(), lines);
            checks.due("place()", x.place(), NO);
            checks.due("tell()", x.tell(lines - 1, 0), true);
            checks.due("tell() of no line", x.tell(lines, 0), false);
        }
        int[][] tooMany = {{1, 3}, {1}, {2}, {0}, {-7}, {1, 4}, {1, 3, 1, 3}, {2, 1, 3, 2, 1, 0, 1}};
        for (int[] line : tooMany) {
            Calls x = withSmallLines(200);
            Checks.say(x, line);
            checks.due("check() of 200 lines and " + Arrays.toString(line), x.check(), -102);
            checks.due("place()", x.place(), 400);
            checks.due("tell()", x.tell(0, 0), false);
            checks.due("prove()", x.prove(0), -102);
            checks.due("place()", x.place(), 400);
            checks.due("length()", x.length(), 400 + line.length);
            x.cut(400);
            checks.due("check() without", x.check(), 200);
            checks.due("tell()", x.tell(199, 0), true);
        }
        checks.about("THE CHECKER: a fault of line 199 goes ahead of a line too many");
        Calls x = withSmallLines(199);
        Checks.say(x, 1, 4, 1, 3);
        checks.due("check()", x.check(), -103);
        checks.due("place()", x.place(), 399);
    }

    private static void orderOfWholeLines() {
        checks.about("In this order within a line: all of its ints are looked at as they come (2, 4 behind the last word)");
        fault(2, 1, 2, 9, 0, 0, 0);
        fault(2, 2, 2, 1, 0, 0, 41, 9, 0);
        fault(2, 3, 2, 2, 2, 0, 1, 41, 9, 0);
        fault(4, 1, 2, 1, 2);
        fault(4, 1, 2, 1, 2, 1, 41, 9, 0);
        fault(4, 1, 2, 1, 1, 1, 41, 9, 0);
        checks.about("In this order within a line: 8 for 2 at a");
        fault(8, 3, 2, 1, 7, 1);
        fault(8, 3, 2, 1, 7, 7, 41);
        fault(8, 3, 2, 1, 7, 1, 2, 9, 0);
        fault(8, 3, 2, 1, 7, 1, 2, 1, 1, 0, 1);
        fault(8, 3, 2, 1, 7, 1, 1, 0, 1);
        checks.about("In this order within a line: m, l, e as they come; 5 at l");
        fault(2, 4, 2, 1, 7, 3, 0);
        fault(2, 4, 2, 1, 7, 3, 41, 9, 0);
        fault(2, 5, 2, 1, 7, 3, 2, 4);
        fault(2, 5, 2, 1, 7, 3, 2, 4, 0, 0);
        fault(2, 6, 2, 1, 7, 3, 2, 1, 0);
        fault(2, 6, 2, 1, 7, 3, 2, 1, 256, 0, 1);
        fault(5, 7, 2, 1, 7, 3, 2, 1, 1, 0);
        fault(5, 7, 2, 1, 7, 3, 2, 1, 1, 0, 0);
        fault(2, 7, 2, 1, 7, 3, 2, 1, 1, -1);
        checks.about("In this order within a line: when all are there: 6");
        fault(1, 8, 2, 1, 7, 3, 2, 0, 2, 1);
        fault(2, 8, 2, 1, 7, 3, 2, 0, 2, 1, 0);
        fault(5, 7, 2, 1, 7, 3, 2, 1, 2, 0, 1);
        fault(6, 4, 2, 1, 7, 3, 2, 0, 2, 1, 1);
        checks.about("In this order within a line: 6, for 2: 9, then 10 of each factor");
        fault(6, 4, 2, 1, 9, 2, 1, 0, 2);
        fault(9, 3, 2, 1, 9, 2, 1, 0, 3);
        fault(6, 4, 2, 1, 7, 2, 1, 0, 1);
        fault(10, 5, 2, 1, 7, 2, 2, 0, 1, 1, 1);
        fault(10, 5, 2, 1, 31, 2, 3, 0, 1, 1, 1, 2, 1);
    }

    private static void orderOfPartLines() {
        checks.about("In this order within a line 3: all of its ints are looked at as they come");
        fault(2, 1, 3, 0, 0, 0, 0);
        fault(2, 3, 3, 2, 2, 0, 41, 9, 0);
        fault(4, 1, 3, 1, 2, 41, 9, 0);
        fault(2, 3, 3, 1, 7, 41, 9, 0);
        fault(2, 4, 3, 1, 7, 2, 4, 0, 1);
        fault(2, 5, 3, 1, 7, 2, 1, 0, 1, 0);
        fault(5, 7, 3, 1, 7, 2, 1, 1, 1, 0, 0, 1);
        fault(2, 8, 3, 1, 7, 2, 0, 1, 1, 1, 0, 1);
        checks.about("In this order within a line 3: when all are there: 6, 7, 8 of each factor");
        fault(1, 9, 3, 1, 37, 2, 0, 1, 1, 2, 1);
        fault(6, 3, 3, 1, 37, 1, 2, 1, 1);
        fault(6, 3, 3, 1, 7, 1, 2, 1, 1);
        fault(7, 3, 3, 1, 37, 1, 0, 2, 1);
        fault(7, 3, 3, 1, 37, 1, 0, 2, 37);
        fault(7, 3, 3, 1, 49, 1, 0, 2, 7);
        fault(8, 6, 3, 1, 7, 2, 0, 1, 1, 1, 1, 7);
        checks.about("In this order within a line 3: 8 of each factor, then of each factor 9, then 10");
        fault(8, 9, 3, 1, 15, 2, 0, 1, 2, 3, 1, 15);
        fault(8, 9, 3, 1, 7, 2, 0, 1, 2, 1, 1, 7);
        // 2^14 is 4 modulo 15, and 3 divides 2^2 - 1.
        fault(9, 6, 3, 1, 15, 1, 3, 1, 2);
        fault(9, 6, 3, 1, 15, 2, 0, 1, 2, 3, 1, 4);
        fault(10, 4, 3, 1, 15, 2, 0, 1, 4, 3, 1, 2);
        fault(9, 9, 3, 1, 15, 2, 0, 1, 14, 3, 1, 2);
        fault(9, 6, 3, 1, 15, 2, 0, 1, 2, 3, 1, 2);
        fault(10, 4, 3, 1, 15, 2, 0, 1, 4, 3, 1, 4);
    }

    private static void orderOfLines() {
        checks.about("THE CHECKER: Its first FAULT: of an earlier line ahead of a later one");
        fault(10, 5, 2, 1, 7, 2, 2, 0, 1, 1, 1, 9);
        fault(9, 3, 2, 1, 9, 2, 1, 0, 3, 1, 4);
        fault(7, 3, 3, 1, 37, 1, 0, 2, 2, 1);
        fault(6, 4, 2, 1, 7, 3, 1, 0, 1, 1, 1);
        fault(3, 1, 1, 9, 0);
        fault(3, 3, 1, 11, 1, 9, 0);
        fault(2, 2, 1, 11, 0, 1, 4);
        fault(1, 3, 1, 11, 1);
    }

    private static void answersOfCheck() {
        checks.about("15: how many lines there are");
        Calls x = new Calls();
        checks.due("check() of none", x.check(), 0);
        for (int lines = 1; lines <= 12; lines++) {
            Checks.say(x, 1, 2 + lines % 2);
            checks.due("check() of " + lines, x.check(), lines);
            checks.due("check() again", x.check(), lines);
        }
        x.cut(0);
        checks.due("check() of none", x.check(), 0);
        checks.about("15: -100 - fault");
        int[][] faults = {
            {1}, {4}, {1, 4}, {2, 1, 2}, {2, 1, 7, 3, 2, 1, 1, 0}, {2, 1, 7, 3, 1, 0, 1}, {3, 1, 37, 1, 0, 2, 2},
            {2, 1, 7, 1}, {2, 1, 9, 2, 1, 0, 3}, {2, 1, 7, 2, 2, 0, 1, 1, 1},
        };
        for (int i = 0; i < faults.length; i++) {
            checks.due("check() of fault " + (i + 1), Checks.withTape(Ints.joined(PRIMES, faults[i])).check(), -101 - i);
        }
    }

    private static void places() {
        checks.about("16: NO when there was none");
        Calls x = Checks.withTape(1, 4);
        checks.due("place() ahead of a check", x.place(), NO);
        checks.about("16: Where the latest check() (or prove()) found its fault");
        checks.due("check()", x.check(), -103);
        checks.due("place()", x.place(), 1);
        checks.due("place() again", x.place(), 1);
        x.cut(0);
        Checks.say(x, 1, 3, 7);
        checks.due("place() of the check that was", x.place(), 1);
        checks.due("prove()", x.prove(0), -102);
        checks.due("place() of prove()", x.place(), 2);
        x.cut(2);
        checks.due("check()", x.check(), 1);
        checks.due("place() of no fault", x.place(), NO);
        x.say(0);
        checks.due("check()", x.check(), -102);
        x.cut(2);
        x.put(0, 0, 5);
        checks.due("place() stays", x.place(), 2);
        checks.due("prove()", x.prove(0), 1);
        checks.due("place() of a right prove()", x.place(), NO);
        x.say(0);
        checks.due("check()", x.check(), -102);
        x.cut(4);
        x.put(0, 0, 6);
        checks.due("prove()", x.prove(0), NO);
        checks.due("place() of a prove() that can't", x.place(), NO);
        // A fault at the tape's first int has place 0, and a tape may end at 1.
        x = Checks.withTape(0);
        checks.due("check()", x.check(), -102);
        checks.due("place()", x.place(), 0);
    }

    private static void tells() {
        checks.about("17: The number of line l of the latest check() or prove() that found no fault");
        Calls x = Checks.withTape(Ints.joined(PRIMES, 3, 2, 1, 3 << 9, 1, 0, 41, 5));
        checks.due("tell(0, 7) ahead of a check", x.tell(0, 7), false);
        checks.due("check()", x.check(), 5);
        for (int to = 0; to < 8; to++) {
            Checks.set(x, to, Checks.LIMIT.subtract(ONE));
            checks.due("tell(4, " + to + ")", x.tell(4, to), true);
            checks.due("register " + to, Checks.number(x, to), BigInteger.valueOf(3L << 41 | 1));
        }
        int[] numbers = {2, 3, 5, 7};
        for (int l = 0; l < 4; l++) {
            checks.due("tell(" + l + ", 7)", x.tell(l, 7), true);
            checks.due("register 7", Checks.number(x, 7), BigInteger.valueOf(numbers[l]));
        }
        checks.about("17: false when there is no such line or register");
        for (int l : new int[] {5, 6, 199, 200, -1, LEAST, MOST}) {
            checks.due("tell(" + l + ", 7)", x.tell(l, 7), false);
        }
        for (int to : new int[] {8, 9, -1, LEAST, MOST}) {
            checks.due("tell(0, " + to + ")", x.tell(0, to), false);
        }
        checks.due("register 7 stays", Checks.number(x, 7), BigInteger.valueOf(7));
        checks.about("17: or the latest one found a fault");
        x.say(9);
        checks.due("tell(0, 7) ahead of it", x.tell(0, 7), true);
        checks.due("check()", x.check(), -102);
        for (int l = 0; l < 6; l++) {
            checks.due("tell(" + l + ", 7)", x.tell(l, 7), false);
        }
        x.cut(8);
        checks.due("tell(0, 7), the tape mended", x.tell(0, 7), false);
        checks.due("prove(8)", x.prove(8), PrimeCertificates.BAD);
        checks.due("tell(0, 7) behind BAD", x.tell(0, 7), false);
        checks.due("check()", x.check(), 4);
        checks.due("tell(3, 7)", x.tell(3, 7), true);
        checks.due("tell(4, 7)", x.tell(4, 7), false);
        x.say(9);
        checks.due("prove(7)", x.prove(7), -102);
        checks.due("tell(3, 7) behind a fault of prove()", x.tell(3, 7), false);
        checks.due("register 7 stays", Checks.number(x, 7), BigInteger.valueOf(7));
    }

    private static void toldStays() {
        checks.about("17: (What is told stays when the tape changes.)");
        for (int n = 0; n <= 8; n++) {
            Calls x = Checks.withTape(PRIMES);
            x.check();
            x.cut(n);
            Checks.say(x, 1, 13, 1, 17, 1, 19, 1, 23, 1, 29, 1);
            int[] numbers = {2, 3, 5, 7};
            for (int l = 0; l < 4; l++) {
                checks.due("tell(" + l + ", 7)", x.tell(l, 7), true);
                checks.due("register 7", Checks.number(x, 7), BigInteger.valueOf(numbers[l]));
            }
            checks.due("tell(4, 7)", x.tell(4, 7), false);
        }
        Calls x = Checks.withTape(1, 3);
        x.put(0, 0, 5);
        checks.due("prove(0)", x.prove(0), 1);
        x.cut(0);
        checks.due("tell(1, 7)", x.tell(1, 7), true);
        checks.due("register 7", x.get(7, 0), 5);
        checks.due("check()", x.check(), 0);
        checks.due("tell(0, 7) of no line", x.tell(0, 7), false);
    }
}
