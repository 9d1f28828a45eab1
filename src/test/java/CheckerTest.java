import java.math.BigInteger;
import java.util.Arrays;

/** Promises 15 to 17: check, place and tell. */
public final class CheckerTest {
    private static final int NO = PrimeCertificates.NO;
    // Lines that tell 2, 3, 5, 7; eight ints.
    private static final int[] PRIMES = {1, 2, 1, 3, 1, 5, 1, 7};

    private static final Checks checks = new Checks("CheckerTest");

    public static void main(String[] args) {
        rightLines();
        tapeEndsWithinLine();
        strangeInts();
        smallPrimes();
        numbersTooSmall();
        factorsNotGoingUp();
        products();
        witnessesOutOfRange();
        notClosing();
        notParting();
        orderWithinLine();
        firstLineAtFault();
        tapeChangesBetweenChecks();
        tapeGrowsBetweenChecks();
        shorterNumberInTheSameLine();
        place();
        tell();
        checks.finish();
    }

    private static void due(int[] tape, int answer, int place) {
        Calls x = Checks.withTape(tape);
        checks.due("check() of " + Arrays.toString(tape), x.check(), answer);
        checks.due("place() of " + Arrays.toString(tape), x.place(), place);
    }

    private static int[] afterPrimes(int... line) {
        int[] tape = Arrays.copyOf(PRIMES, PRIMES.length + line.length);
        System.arraycopy(line, 0, tape, PRIMES.length, line.length);
        return tape;
    }

    private static void right(int... line) {
        due(afterPrimes(line), 5, NO);
    }

    /** place counts from the start of the line. */
    private static void fault(int fault, int place, int... line) {
        due(afterPrimes(line), -100 - fault, PRIMES.length + place);
    }

    private static void rightLines() {
        due(new int[] {}, 0, NO);
        due(new int[] {1, 2}, 1, NO);
        due(new int[] {1, 2, 1, 2, 1, 65521}, 3, NO);
        right(2, 1, 3, 2, 1, 0, 1);
        right(2, 1, 7, 3, 2, 0, 1, 1, 1);
        right(2, 1, 7, 5, 2, 0, 1, 1, 1);
        right(3, 1, 3, 1, 0, 1, 2);
        right(3, 1, 13, 1, 0, 2, 2);
        right(3, 1, 13, 2, 0, 1, 2, 1, 1, 2);
        right(3, 1, 13, 2, 0, 2, 2, 1, 1, 6);
        right(2, 1, 65537, 3, 1, 0, 16);
        // 3 2^189 + 1, a prime of six words.
        right(2, 6, 1, 0, 0, 0, 0, 3 << 29, 11, 2, 0, 189, 1, 1);
        right(3, 6, 1, 0, 0, 0, 0, 3 << 29, 1, 0, 189, 11);
        // A line that leans on one of the kinds 2 and 3.
        due(new int[] {1, 2, 2, 1, 3, 2, 1, 0, 1, 2, 1, 7, 3, 2, 0, 1, 1, 1}, 3, NO);
        due(new int[] {1, 2, 3, 1, 3, 1, 0, 1, 2, 2, 1, 7, 3, 2, 0, 1, 1, 1}, 3, NO);
    }

    private static void tapeEndsWithinLine() {
        int[] whole = afterPrimes(2, 2, 1, 3 << 9, 3, 2, 0, 41, 1, 1);
        int[] part = afterPrimes(3, 1, 13, 2, 0, 2, 2, 1, 1, 6);
        for (int n = 9; n < whole.length; n++) {
            due(Arrays.copyOf(whole, n), -101, n);
        }
        for (int n = 9; n < part.length; n++) {
            due(Arrays.copyOf(part, n), -101, n);
        }
        for (int n = 1; n <= 8; n++) {
            due(Arrays.copyOf(whole, n), n % 2 == 0 ? n / 2 : -101, n % 2 == 0 ? NO : n);
        }
    }

    private static void strangeInts() {
        for (int kind : new int[] {0, 4, -1, Integer.MIN_VALUE, Integer.MAX_VALUE}) {
            fault(2, 0, kind);
            fault(2, 0, kind, 2);
        }
        for (int kind = 2; kind <= 3; kind++) {
            for (int words : new int[] {0, 9, -1, Integer.MIN_VALUE, Integer.MAX_VALUE}) {
                fault(2, 1, kind, words);
            }
            fault(2, 2, kind, 1, 0);
            fault(2, 3, kind, 2, 7, 0);
            fault(2, 9, kind, 8, 1, 2, 3, 4, 5, 6, 7, 0);
        }
        for (int m : new int[] {0, 41, -1, Integer.MIN_VALUE, Integer.MAX_VALUE}) {
            fault(2, 4, 2, 1, 7, 3, m);
            fault(2, 3, 3, 1, 7, m);
        }
        for (int l : new int[] {4, 5, -1, Integer.MIN_VALUE, Integer.MAX_VALUE}) {
            fault(2, 5, 2, 1, 7, 3, 2, l);
            fault(2, 7, 2, 1, 7, 3, 2, 0, 1, l);
            fault(2, 4, 3, 1, 7, 2, l);
            fault(2, 7, 3, 1, 7, 2, 0, 1, 3, l);
        }
        for (int e : new int[] {0, 256, -1, Integer.MIN_VALUE, Integer.MAX_VALUE}) {
            fault(2, 6, 2, 1, 7, 3, 2, 0, e);
            fault(2, 8, 2, 1, 7, 3, 2, 0, 1, 1, e);
            fault(2, 5, 3, 1, 7, 2, 0, e);
            fault(2, 8, 3, 1, 7, 2, 0, 1, 3, 1, e);
        }
        due(new int[] {2, 1, 3, 2, 1, 0, 1}, -102, 5);
    }

    private static void smallPrimes() {
        for (int p : new int[] {0, 1, -1, -3, 4, 9, 65535, 65536, 65537, Integer.MIN_VALUE, Integer.MAX_VALUE}) {
            fault(3, 1, 1, p);
        }
        // 251^2 and 241 251: their least divisors stand near the end of the search.
        fault(3, 1, 1, 63001);
        fault(3, 1, 1, 60491);
        right(1, 65521);
        right(1, 251);
    }

    private static void numbersTooSmall() {
        for (int kind = 2; kind <= 3; kind++) {
            fault(4, 1, kind, 1, 1);
            fault(4, 1, kind, 1, 2);
            fault(4, 1, kind, 1, 2, 1);
            // Not below 3: a word is not below 0, and there may be more words.
            fault(1, 3, kind, 1, -1);
            fault(1, 4, kind, 2, 1, 1);
            fault(1, 3, kind, 1, 3);
        }
    }

    private static void factorsNotGoingUp() {
        fault(5, 7, 2, 1, 7, 3, 2, 1, 1, 0);
        fault(5, 7, 2, 1, 7, 3, 2, 1, 1, 1);
        fault(5, 7, 3, 1, 7, 2, 1, 1, 3, 0);
        fault(5, 10, 3, 1, 31, 3, 0, 1, 3, 2, 1, 3, 1, 1, 3);
        // Two lines that tell the same number.
        due(new int[] {1, 2, 1, 2, 2, 1, 5, 2, 2, 0, 1, 1, 1}, -105, 11);
        // Numbers go up, though lines go down.
        due(new int[] {1, 3, 1, 2, 2, 1, 7, 3, 2, 1, 1, 0, 1}, 3, NO);
    }

    private static void products() {
        fault(6, 4, 2, 1, 7, 3, 2, 0, 2, 1, 1);
        fault(6, 4, 2, 1, 7, 3, 1, 0, 1);
        fault(6, 4, 2, 1, 13, 2, 1, 0, 2);
        fault(6, 4, 2, 1, 7, 3, 2, 0, 255, 1, 255);
        fault(6, 4, 2, 1, 7, 3, 1, 3, 255);
        fault(6, 3, 3, 1, 13, 1, 0, 3, 2);
        fault(6, 3, 3, 1, 13, 1, 2, 1, 2);
        fault(6, 3, 3, 1, 13, 2, 0, 255, 2, 1, 255, 2);
        // 2^256 is 0 in eight words, and 3 2^255 is 2^255.
        fault(6, 10, 3, 8, 1, 0, 0, 0, 0, 0, 0, Integer.MIN_VALUE, 2, 0, 255, 3, 1, 1, 3);
        fault(7, 3, 3, 1, 13, 1, 1, 1, 2);
        fault(7, 3, 3, 1, 7, 1, 0, 1, 3);
        // 4 4 is above 13, but not above 17 and 29.
        fault(7, 3, 3, 1, 29, 1, 0, 2, 2);
        fault(7, 3, 3, 1, 37, 1, 0, 2, 2);
        right(3, 1, 29, 1, 3, 1, 2);
    }

    private static void witnessesOutOfRange() {
        for (int a : new int[] {1, 0, -1, 7, 8, Integer.MIN_VALUE, Integer.MAX_VALUE}) {
            fault(8, 3, 2, 1, 7, a);
            fault(8, 3, 2, 1, 7, a, 41);
            fault(8, 6, 3, 1, 7, 1, 1, 1, a);
            fault(8, 9, 3, 1, 7, 2, 0, 1, 3, 1, 1, a);
        }
        // Below 2, though a word of these bits would be below N.
        fault(8, 4, 2, 2, 1, 3 << 9, -3);
        fault(8, 3, 2, 1, -1, -2);
        fault(8, 7, 3, 2, 1, 3 << 9, 1, 0, 41, -3);
        // The largest one there is.
        fault(6, 4, 2, 1, -1, Integer.MAX_VALUE, 1, 0, 1);
    }

    private static void notClosing() {
        fault(9, 3, 2, 1, 9, 2, 1, 0, 3);
        fault(9, 3, 2, 1, 4, 2, 1, 1, 1);
        fault(9, 3, 2, 1, 4, 3, 1, 1, 1);
        fault(9, 6, 3, 1, 9, 1, 0, 3, 2);
        fault(9, 6, 3, 1, 4, 1, 1, 1, 3);
        fault(9, 6, 3, 1, 15, 2, 0, 1, 2, 3, 1, 4);
    }

    private static void notParting() {
        fault(10, 5, 2, 1, 7, 2, 2, 0, 1, 1, 1);
        fault(10, 7, 2, 1, 7, 6, 2, 0, 1, 1, 1);
        fault(10, 4, 3, 1, 7, 2, 0, 1, 2, 1, 1, 3);
        fault(10, 7, 3, 1, 7, 2, 0, 1, 3, 1, 1, 6);
        right(3, 1, 7, 2, 0, 1, 3, 1, 1, 2);
        // 4^14 is 1 modulo 15 and 4^7 is 4: not 1, but 3 divides 15.
        fault(10, 7, 2, 1, 15, 4, 2, 0, 1, 3, 1);
        fault(10, 4, 3, 1, 15, 2, 0, 1, 4, 3, 1, 4);
        fault(10, 4, 3, 1, 9, 1, 0, 3, 8);
    }

    private static void orderWithinLine() {
        // Highest word 0 ahead of a number below 3, and that ahead of a strange witness.
        fault(2, 3, 2, 2, 2, 0, 0);
        fault(4, 1, 2, 1, 2, 5, 41, 9);
        // For kind 2 the witness at its place; for kind 3 behind all ints and products.
        fault(8, 3, 2, 1, 7, 1, 41);
        fault(2, 3, 3, 1, 7, 41);
        fault(1, 7, 3, 1, 7, 2, 0, 1, 1);
        fault(5, 7, 3, 1, 7, 2, 1, 1, 1, 0, 1, 1);
        fault(6, 3, 3, 1, 7, 1, 2, 1, 1);
        fault(7, 3, 3, 1, 7, 1, 0, 1, 1);
        // 6 ahead of 7 and 9.
        fault(6, 4, 2, 1, 9, 2, 1, 0, 2);
        // 8 of the second factor ahead of 10 of the first.
        fault(8, 9, 3, 1, 7, 2, 0, 1, 2, 1, 1, 7);
        // 10 of the first factor ahead of 9 of the second, and 9 of the first ahead of 10 of it.
        fault(10, 4, 3, 1, 15, 2, 0, 1, 4, 3, 1, 2);
        fault(9, 6, 3, 1, 15, 2, 0, 1, 2, 3, 1, 4);
        // A strange exponent ahead of factors that do not go up behind it.
        fault(2, 6, 2, 1, 7, 3, 2, 1, 0, 0, 1);
    }

    private static void firstLineAtFault() {
        due(new int[] {1, 4, 1, 2, 9}, -103, 1);
        due(new int[] {1, 2, 1, 4, 9}, -103, 3);
        due(afterPrimes(2, 1, 7, 2, 2, 0, 1, 1, 1, 1, 4), -110, 13);
        due(afterPrimes(2, 1, 7, 3, 2, 0, 1, 1, 1, 1, 4), -103, 18);
        due(afterPrimes(2, 1, 7, 3, 2, 0, 1, 1, 1, 1), -101, 18);
    }

    private static void tapeChangesBetweenChecks() {
        Calls x = Checks.withTape(afterPrimes(2, 1, 7, 3, 2, 0, 1, 1, 1));
        checks.due("check()", x.check(), 5);
        checks.due("check() again", x.check(), 5);
        x.cut(3);
        Checks.say(x, 2, 1, 5, 1, 7, 2, 1, 7, 3, 2, 0, 1, 1, 1);
        checks.due("check() with 2 for 3", x.check(), -105);
        checks.due("place()", x.place(), 15);
        x.cut(3);
        Checks.say(x, 3, 1, 5, 1, 7, 2, 1, 7, 3, 2, 0, 1, 1, 1);
        checks.due("check() with 3 again", x.check(), 5);
        x.cut(16);
        checks.due("check() of a cut line", x.check(), -101);
        checks.due("place()", x.place(), 16);
        x.say(2);
        checks.due("check() with another exponent", x.check(), -106);
        x.cut(8);
        checks.due("check() of whole lines", x.check(), 4);
        x.cut(0);
        Checks.say(x, 1, 6);
        checks.due("check() of another tape", x.check(), -103);
        x.cut(0);
        checks.due("check() of no tape", x.check(), 0);
    }

    /** A fault found on the way leaves nothing behind. */
    private static void tapeGrowsBetweenChecks() {
        int[] tape = {
            1, 2, 1, 3, 2, 1, 7, 3, 2, 0, 1, 1, 1, 3, 1, 13, 2, 0, 2, 2, 1, 1, 6, 2, 2, 1, 3 << 9, 5, 2, 0, 41, 1, 1,
        };
        Calls x = new Calls();
        for (int i = 0; i < tape.length; i++) {
            x.say(tape[i]);
            Calls fresh = Checks.withTape(Arrays.copyOf(tape, i + 1));
            checks.due("check() of " + (i + 1) + " ints", x.check(), fresh.check());
            checks.due("place() of " + (i + 1) + " ints", x.place(), fresh.place());
        }
        checks.due("check() at the end", x.check(), 5);
        tells(x, 2, 7);
        tells(x, 3, 13);
        tells(x, 4, 3L << 41 | 1);
        for (int n = tape.length; n >= 0; n--) {
            x.cut(n);
            Calls fresh = Checks.withTape(Arrays.copyOf(tape, n));
            checks.due("check() cut to " + n + " ints", x.check(), fresh.check());
            checks.due("place() cut to " + n + " ints", x.place(), fresh.place());
        }
    }

    private static void shorterNumberInTheSameLine() {
        Calls x = Checks.withTape(1, 2, 1, 3, 2, 6, 1, 0, 0, 0, 0, 3 << 29, 11, 2, 0, 189, 1, 1);
        checks.due("check()", x.check(), 3);
        x.cut(4);
        Checks.say(x, 2, 1, 7, 3, 2, 0, 1, 1, 1);
        checks.due("check()", x.check(), 3);
        tells(x, 2, 7);
        x.cut(0);
        Checks.say(x, 1, 2, 1, 3, 1, 5);
        checks.due("check()", x.check(), 3);
        tells(x, 2, 5);
    }

    private static void place() {
        Calls x = Checks.withTape(1, 2, 1, 9);
        checks.due("place() ahead of a check", x.place(), NO);
        checks.due("check()", x.check(), -103);
        checks.due("place()", x.place(), 3);
        x.cut(0);
        checks.due("place() stays", x.place(), 3);
        checks.due("prove(8)", x.prove(8), PrimeCertificates.BAD);
        checks.due("place() stays", x.place(), 3);
        checks.due("check()", x.check(), 0);
        checks.due("place()", x.place(), NO);
        Checks.say(x, 1);
        x.put(0, 0, 5);
        checks.due("prove(0)", x.prove(0), -101);
        checks.due("place()", x.place(), 1);
        checks.due("length()", x.length(), 1);
        x.cut(0);
        checks.due("prove(0)", x.prove(0), 0);
        checks.due("place()", x.place(), NO);
        Checks.say(x, 1, 4);
        x.check();
        checks.due("place()", x.place(), 3);
        x.cut(2);
        x.put(0, 0, 6);
        checks.due("prove(0)", x.prove(0), NO);
        checks.due("place()", x.place(), NO);
    }

    private static void tells(Calls x, int line, long want) {
        checks.due("tell(" + line + ", 7)", x.tell(line, 7), true);
        checks.due("register 7", Checks.number(x, 7), BigInteger.valueOf(want));
    }

    private static void tell() {
        Calls x = Checks.withTape(afterPrimes(2, 2, 1, 3 << 9, 5, 2, 0, 41, 1, 1));
        checks.due("tell(0, 7) ahead of a check", x.tell(0, 7), false);
        checks.due("check()", x.check(), 5);
        Checks.set(x, 7, Checks.LIMIT.subtract(BigInteger.ONE));
        tells(x, 0, 2);
        tells(x, 3, 7);
        tells(x, 4, 3L << 41 | 1);
        checks.due("tell(5, 7)", x.tell(5, 7), false);
        checks.due("tell(-1, 7)", x.tell(-1, 7), false);
        checks.due("tell(most, 7)", x.tell(Integer.MAX_VALUE, 7), false);
        checks.due("tell(0, 8)", x.tell(0, 8), false);
        checks.due("tell(0, -1)", x.tell(0, -1), false);
        checks.due("register 7 stays", Checks.number(x, 7), BigInteger.valueOf(3L << 41 | 1));
        x.cut(0);
        Checks.say(x, 1, 11, 1, 4);
        tells(x, 4, 3L << 41 | 1);
        tells(x, 0, 2);
        checks.due("prove(-1)", x.prove(-1), PrimeCertificates.BAD);
        tells(x, 4, 3L << 41 | 1);
        checks.due("check()", x.check(), -103);
        checks.due("tell(0, 7) after a fault", x.tell(0, 7), false);
        x.cut(2);
        checks.due("tell(0, 7) after a cut", x.tell(0, 7), false);
        checks.due("check()", x.check(), 1);
        tells(x, 0, 11);
        checks.due("tell(1, 7)", x.tell(1, 7), false);
        x.put(0, 0, 65537);
        checks.due("prove(0)", x.prove(0), 2);
        tells(x, 1, 2);
        tells(x, 2, 65537);
        checks.due("tell(3, 7)", x.tell(3, 7), false);
        x.put(0, 0, 65539 * 3);
        checks.due("prove(0)", x.prove(0), NO);
        tells(x, 2, 65537);
        checks.due("tell(3, 7)", x.tell(3, 7), false);
        x.say(1);
        checks.due("prove(0)", x.prove(0), -101);
        checks.due("tell(0, 7) after a fault of prove", x.tell(0, 7), false);
    }
}
