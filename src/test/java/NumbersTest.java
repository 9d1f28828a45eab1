import java.math.BigInteger;
import java.util.ArrayList;
import java.util.List;

/** Promises 1 to 10: a new object, words of registers, and the sums. */
public final class NumbersTest {
    private static final int BAD = PrimeCertificates.BAD;
    private static final int NO = PrimeCertificates.NO;
    private static final int FULL = PrimeCertificates.FULL;
    private static final BigInteger ZERO = BigInteger.ZERO;
    private static final BigInteger ONE = BigInteger.ONE;
    private static final BigInteger MOST = Checks.LIMIT.subtract(ONE);
    private static final int[] NO_REGISTERS = {-1, 8, Integer.MIN_VALUE, Integer.MAX_VALUE};

    private static final Checks checks = new Checks("NumbersTest");

    public static void main(String[] args) {
        newObject();
        words();
        add();
        subtract();
        multiply();
        divide();
        divideHardQuotients();
        power();
        common();
        compare();
        highestBits();
        checks.finish();
    }

    private static Calls with(BigInteger... numbers) {
        Calls x = new Calls();
        for (int r = 0; r < numbers.length; r++) {
            Checks.set(x, r, numbers[r]);
        }
        return x;
    }

    private static BigInteger of(long v) {
        return BigInteger.valueOf(v);
    }

    private static BigInteger bit(int i) {
        return ONE.shiftLeft(i);
    }

    private static void holds(String when, Calls x, int register, BigInteger want) {
        checks.due("register " + register + " " + when, Checks.number(x, register), want);
    }

    private static void newObject() {
        Calls x = new Calls();
        for (int r = 0; r < 8; r++) {
            holds("of a new object", x, r, ZERO);
        }
        checks.due("length()", x.length(), 0);
        checks.due("at(0)", x.at(0), 0);
        checks.due("place()", x.place(), NO);
        checks.due("tell(0, 0)", x.tell(0, 0), false);
        checks.due("check()", x.check(), 0);
        checks.due("place()", x.place(), NO);
    }

    private static void words() {
        Calls x = new Calls();
        for (int r = 0; r < 8; r++) {
            for (int i = 0; i < 8; i++) {
                checks.due("put", x.put(r, i, 1000 * r - 77 * i), true);
            }
        }
        for (int r = 0; r < 8; r++) {
            for (int i = 0; i < 8; i++) {
                checks.due("get(" + r + ", " + i + ")", x.get(r, i), 1000 * r - 77 * i);
            }
        }
        for (int none : NO_REGISTERS) {
            checks.due("put(" + none + ", 0, 5)", x.put(none, 0, 5), false);
            checks.due("put(0, " + none + ", 5)", x.put(0, none, 5), false);
            checks.due("get(" + none + ", 1)", x.get(none, 1), 0);
            checks.due("get(1, " + none + ")", x.get(1, none), 0);
        }
        checks.due("get(0, 0)", x.get(0, 0), 0);
        checks.due("get(7, 7)", x.get(7, 7), 7000 - 77 * 7);
    }

    private static void add() {
        Calls x = with(MOST.subtract(of(5)), of(5), of(6));
        checks.due("add", x.add(0, 1, 3), 0);
        holds("after add", x, 3, MOST);
        checks.due("add beyond", x.add(0, 2, 3), FULL);
        holds("after FULL", x, 3, MOST);
        checks.due("add 0", x.add(3, 7, 3), 0);
        holds("after add 0", x, 3, MOST);
        checks.due("add into a", x.add(1, 2, 1), 0);
        holds("after add into a", x, 1, of(11));
        checks.due("add to itself", x.add(1, 1, 1), 0);
        holds("after add to itself", x, 1, of(22));
        for (int none : NO_REGISTERS) {
            checks.due("add", x.add(none, 0, 1), BAD);
            checks.due("add", x.add(0, none, 1), BAD);
            checks.due("add, not FULL", x.add(0, 0, none), BAD);
        }
        holds("after BAD", x, 1, of(22));
    }

    private static void subtract() {
        Calls x = with(bit(255), ONE, bit(128));
        checks.due("subtract", x.subtract(0, 1, 3), 0);
        holds("after subtract", x, 3, bit(255).subtract(ONE));
        checks.due("subtract below 0", x.subtract(1, 2, 3), NO);
        holds("after NO", x, 3, bit(255).subtract(ONE));
        checks.due("subtract itself", x.subtract(3, 3, 3), 0);
        holds("after subtract itself", x, 3, ZERO);
        checks.due("subtract into b", x.subtract(2, 1, 1), 0);
        holds("after subtract into b", x, 1, bit(128).subtract(ONE));
        for (int none : NO_REGISTERS) {
            checks.due("subtract", x.subtract(none, 0, 1), BAD);
            checks.due("subtract", x.subtract(0, none, 1), BAD);
            checks.due("subtract, not NO", x.subtract(1, 0, none), BAD);
        }
    }

    private static void multiply() {
        BigInteger half = bit(128).subtract(ONE);
        Calls x = with(half, bit(128), MOST, ONE, of(2), bit(255));
        checks.due("multiply", x.multiply(0, 0, 6), 0);
        holds("after multiply", x, 6, half.multiply(half));
        checks.due("multiply", x.multiply(0, 1, 6), 0);
        holds("after multiply", x, 6, half.shiftLeft(128));
        checks.due("multiply to 2^256", x.multiply(1, 1, 6), FULL);
        checks.due("multiply to 2^256", x.multiply(4, 5, 6), FULL);
        checks.due("multiply most", x.multiply(2, 2, 6), FULL);
        holds("after FULL", x, 6, half.shiftLeft(128));
        checks.due("divide after FULL", x.divide(0, 1, 6, 7), 0);
        holds("after divide after FULL", x, 6, ZERO);
        holds("after divide after FULL", x, 7, half);
        x.subtract(7, 7, 7);
        checks.due("multiply by 1", x.multiply(2, 3, 2), 0);
        holds("after multiply by 1", x, 2, MOST);
        checks.due("multiply by 0", x.multiply(2, 7, 2), 0);
        holds("after multiply by 0", x, 2, ZERO);
        for (int none : NO_REGISTERS) {
            checks.due("multiply", x.multiply(none, 0, 1), BAD);
            checks.due("multiply", x.multiply(0, none, 1), BAD);
            checks.due("multiply, not FULL", x.multiply(1, 1, none), BAD);
        }
    }

    private static void divide() {
        Calls x = with(of(100), of(7), ZERO);
        checks.due("divide", x.divide(0, 1, 3, 4), 0);
        holds("after divide", x, 3, of(14));
        holds("after divide", x, 4, of(2));
        checks.due("divide by 0", x.divide(0, 2, 3, 4), NO);
        checks.due("divide, to is rest", x.divide(0, 1, 3, 3), BAD);
        checks.due("divide, to is rest, not NO", x.divide(0, 2, 3, 3), BAD);
        holds("after NO and BAD", x, 3, of(14));
        holds("after NO and BAD", x, 4, of(2));
        for (int none : NO_REGISTERS) {
            checks.due("divide", x.divide(none, 1, 3, 4), BAD);
            checks.due("divide", x.divide(0, none, 3, 4), BAD);
            checks.due("divide, not NO", x.divide(0, 2, none, 4), BAD);
            checks.due("divide, not NO", x.divide(0, 2, 3, none), BAD);
        }
        checks.due("divide 0", x.divide(2, 1, 3, 4), 0);
        holds("after divide 0", x, 3, ZERO);
        holds("after divide 0", x, 4, ZERO);
        checks.due("divide the smaller", x.divide(1, 0, 3, 4), 0);
        holds("after divide the smaller", x, 3, ZERO);
        holds("after divide the smaller", x, 4, of(7));
        checks.due("divide into a and b", x.divide(0, 1, 1, 0), 0);
        holds("after divide into a and b", x, 1, of(14));
        holds("after divide into a and b", x, 0, of(2));
        checks.due("divide by itself", x.divide(1, 1, 1, 0), 0);
        holds("after divide by itself", x, 1, ONE);
        holds("after divide by itself", x, 0, ZERO);
    }

    /** Words for which a guessed word of the quotient is too large by one or two. */
    private static void divideHardQuotients() {
        String[][] pairs = {
            {"7fffffff800000000000000000000000", "800000000000000000000001"},
            {"00000003000000000000000080000000", "200000000000000000000001"},
            {"80000000000000000000000000000003", "200000000000000000000001"},
            {"80000000fffffffe00000000", "80000000ffffffff"},
            {"ffffffffffffffffffffffffffffffffffffffffffffffffffffffffffffffff", "ffffffffffffffffffffffffffffffff"},
            {"fffffffffffffffffffffffffffffffffffffffffffffffffffffffffffffffe", "ffffffffffffffff0000000000000001"},
            {"8000000000000000000000000000000000000000000000000000000000000000", "80000000000000000000000000000001"},
            {"ffffffff00000000ffffffff00000000ffffffff00000000ffffffff00000000", "ffffffff"},
            {"8000000000000000000000000000000000000000000000000000000000000000", "1"},
        };
        for (String[] pair : pairs) {
            BigInteger a = new BigInteger(pair[0], 16);
            BigInteger b = new BigInteger(pair[1], 16);
            Calls x = with(a, b);
            checks.due("divide", x.divide(0, 1, 2, 3), 0);
            holds("after " + pair[0] + " by " + pair[1], x, 2, a.divide(b));
            holds("after " + pair[0] + " by " + pair[1], x, 3, a.mod(b));
        }
    }

    private static void powers(BigInteger a, BigInteger b, BigInteger m, BigInteger want) {
        Calls x = with(a, b, m);
        checks.due("power", x.power(0, 1, 2, 3), 0);
        holds("after " + a + "^" + b + " modulo " + m, x, 3, want);
        for (int to = 0; to < 3; to++) {
            x = with(a, b, m);
            x.power(0, 1, 2, to);
            holds("after a power into one of its own", x, to, want);
        }
    }

    private static void power() {
        powers(of(2), of(10), of(1000), of(24));
        powers(ZERO, ZERO, of(7), ONE);
        powers(ZERO, of(5), of(7), ZERO);
        powers(of(9), ZERO, of(7), ONE);
        powers(ZERO, ZERO, ONE, ZERO);
        powers(of(5), of(5), ONE, ZERO);
        powers(MOST, ONE, of(10), MOST.mod(of(10)));
        powers(of(3), MOST, bit(255), of(3).modPow(MOST, bit(255)));
        powers(MOST, MOST, MOST.subtract(of(188)), MOST.modPow(MOST, MOST.subtract(of(188))));
        powers(MOST, MOST, MOST, ZERO);
        Calls x = with(of(2), of(3), ZERO, of(9));
        checks.due("power modulo 0", x.power(0, 1, 2, 3), NO);
        holds("after NO", x, 3, of(9));
        for (int none : NO_REGISTERS) {
            checks.due("power, not NO", x.power(none, 1, 2, 3), BAD);
            checks.due("power, not NO", x.power(0, none, 2, 3), BAD);
            checks.due("power", x.power(0, 1, none, 3), BAD);
            checks.due("power, not NO", x.power(0, 1, 2, none), BAD);
        }
    }

    private static void common() {
        Calls x = with(of(84), of(30), ZERO, bit(255), bit(200).multiply(of(81)));
        checks.due("common", x.common(0, 1, 5), 0);
        holds("after common", x, 5, of(6));
        checks.due("common of both 0", x.common(2, 7, 5), 0);
        holds("after common of both 0", x, 5, ZERO);
        checks.due("common with 0", x.common(2, 0, 5), 0);
        holds("after common with 0", x, 5, of(84));
        checks.due("common with 0", x.common(3, 2, 5), 0);
        holds("after common with 0", x, 5, bit(255));
        checks.due("common of large ones", x.common(3, 4, 4), 0);
        holds("after common of large ones", x, 4, bit(200));
        // Neighbours in Fibonacci's row take Euclid the most steps.
        BigInteger smaller = ONE;
        BigInteger larger = ONE;
        while (larger.add(smaller).compareTo(Checks.LIMIT) < 0) {
            BigInteger next = larger.add(smaller);
            smaller = larger;
            larger = next;
        }
        x = with(smaller, larger);
        checks.due("common of Fibonacci's", x.common(0, 1, 2), 0);
        holds("after common of Fibonacci's", x, 2, ONE);
        for (int none : NO_REGISTERS) {
            checks.due("common", x.common(none, 1, 2), BAD);
            checks.due("common", x.common(0, none, 2), BAD);
            checks.due("common", x.common(0, 1, none), BAD);
        }
    }

    private static void compare() {
        Calls x = with(MOST, bit(255), bit(31), bit(32), bit(31));
        checks.due("compare", x.compare(0, 1), 1);
        checks.due("compare", x.compare(1, 0), -1);
        checks.due("compare", x.compare(2, 3), -1);
        checks.due("compare", x.compare(2, 4), 0);
        checks.due("compare", x.compare(2, 7), 1);
        checks.due("compare", x.compare(0, 0), 0);
        for (int none : NO_REGISTERS) {
            checks.due("compare", x.compare(none, 0), 2);
            checks.due("compare", x.compare(0, none), 2);
        }
    }

    /** Numbers of one word up to eight, of words at the edge of the highest bit. */
    private static List<BigInteger> edgeNumbers() {
        int[] words = {0x80000000, 0x80000001, 0xFFFFFFFF, 0xFFFFFFFE, 0x7FFFFFFF};
        List<BigInteger> numbers = new ArrayList<>();
        for (int count = 1; count <= 8; count++) {
            for (int highest : words) {
                for (int others : words) {
                    for (int lowest : new int[] {others, 0, -1}) {
                        numbers.add(ofWords(count, highest, others, lowest));
                    }
                }
            }
        }
        return numbers;
    }

    private static BigInteger ofWords(int count, int highest, int others, int lowest) {
        BigInteger number = of(highest & 0xFFFFFFFFL);
        for (int i = count - 2; i >= 0; i--) {
            number = number.shiftLeft(32).add(of((i == 0 ? lowest : others) & 0xFFFFFFFFL));
        }
        return number;
    }

    private static void highestBits() {
        List<BigInteger> numbers = edgeNumbers();
        Calls x = new Calls();
        int calls = 0;
        for (int i = 0; i < numbers.size(); i++) {
            for (int j = 0; j < numbers.size(); j++) {
                // An object is good for 512 calls, and a round takes some fifty.
                x = calls % 8 == 0 ? new Calls() : x;
                calls++;
                highestBits(x, numbers.get(i), numbers.get(j), (7 * i + j) % 20 == 0);
            }
        }
    }

    private static void highestBits(Calls x, BigInteger a, BigInteger b, boolean powerToo) {
        String of = "of " + a.toString(16) + " and " + b.toString(16);
        Checks.set(x, 0, a);
        Checks.set(x, 1, b);
        checks.due("divide", x.divide(0, 1, 2, 3), 0);
        holds("after divide " + of, x, 2, a.divide(b));
        holds("after divide " + of, x, 3, a.mod(b));
        checks.due("common", x.common(0, 1, 4), 0);
        holds("after common " + of, x, 4, a.gcd(b));
        if (powerToo) {
            checks.due("power", x.power(0, 0, 1, 5), 0);
            holds("after a^a modulo b " + of, x, 5, a.modPow(a, b));
        }
    }
}
