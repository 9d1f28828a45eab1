import java.math.BigInteger;

/** Terms (NUMBERS, WORDS, REGISTERS) and promises 1 to 10, each sentence at its edges. */
public final class NumberEdgesTest {
    private static final int NO = PrimeCertificates.NO;
    private static final int FULL = PrimeCertificates.FULL;
    private static final int BAD = PrimeCertificates.BAD;
    private static final BigInteger ZERO = BigInteger.ZERO;
    private static final BigInteger ONE = BigInteger.ONE;
    private static final BigInteger MOST = Checks.LIMIT.subtract(ONE);

    private static final Checks checks = new Checks("NumberEdgesTest");

    public static void main(String[] args) {
        newObject();
        everyWordOfEveryRegister();
        everyRegisterInEveryPlace();
        registersMayBeTheSame();
        words();
        sumsUpToTheLimit();
        differencesDownToZero();
        productsUpToTheLimit();
        quotients();
        toIsRest();
        powers();
        powersOfNothing();
        commonDivisors();
        orders();
        checks.finish();
    }

    private static BigInteger of(long v) {
        return BigInteger.valueOf(v);
    }

    private static BigInteger bit(int i) {
        return ONE.shiftLeft(i);
    }

    private static Calls with(BigInteger... numbers) {
        Calls x = new Calls();
        for (int r = 0; r < numbers.length; r++) {
            Checks.set(x, r, numbers[r]);
        }
        return x;
    }

    private static void holds(Calls x, int register, BigInteger want) {
        checks.due("register " + register, Checks.number(x, register), want);
    }

    private static void newObject() {
        checks.about("1: All registers are 0");
        Calls x = new Calls();
        for (int r = 0; r < 8; r++) {
            holds(x, r, ZERO);
        }
        checks.about("1: an empty tape");
        x = new Calls();
        checks.due("length()", x.length(), 0);
        checks.due("at(0)", x.at(0), 0);
        checks.due("cut(1)", x.cut(1), false);
        checks.due("cut(0)", x.cut(0), true);
        checks.due("say(5)", x.say(5), 1);
        checks.about("16: place() NO when there was none, nor a check; 17: tell() false then");
        x = new Calls();
        checks.due("place()", x.place(), NO);
        checks.due("tell(0, 0)", x.tell(0, 0), false);
        checks.due("check()", x.check(), 0);
        checks.due("place()", x.place(), NO);
        checks.due("tell(0, 0)", x.tell(0, 0), false);
        checks.about("1: a new object has nothing of another one");
        x.put(3, 3, 3);
        Checks.say(x, 1, 4);
        x.check();
        Calls y = new Calls();
        checks.due("get(3, 3)", y.get(3, 3), 0);
        checks.due("length()", y.length(), 0);
        checks.due("place()", y.place(), NO);
    }

    private static void everyWordOfEveryRegister() {
        checks.about("Terms: Eight REGISTERS (0 .. 7); 2: word i of a register becomes v");
        for (int v : new int[] {1, -1, Integer.MIN_VALUE, Integer.MAX_VALUE}) {
            for (int r = 0; r < 8; r++) {
                for (int i = 0; i < 8; i++) {
                    Calls x = new Calls();
                    checks.due("put(" + r + ", " + i + ", " + v + ")", x.put(r, i, v), true);
                    seeOnly(x, r, i, v);
                    checks.due("put of 0", x.put(r, i, 0), true);
                    checks.due("get", x.get(r, i), 0);
                }
            }
        }
    }

    private static void seeOnly(Calls x, int register, int word, int v) {
        for (int r = 0; r < 8; r++) {
            for (int i = 0; i < 8; i++) {
                checks.due("get(" + r + ", " + i + ")", x.get(r, i), r == register && i == word ? v : 0);
            }
        }
    }

    /** Operands and answers go round, so that each place sees register 0, register 7 and all between. */
    private static void everyRegisterInEveryPlace() {
        checks.about("4 to 10: any of the registers 0 .. 7 in any place");
        for (int a = 0; a < 8; a++) {
            int b = (a + 1) % 8;
            int to = (a + 2) % 8;
            int other = (a + 5) % 8;
            Calls x = new Calls();
            Checks.set(x, a, 1000);
            Checks.set(x, b, 16);
            Checks.set(x, other, 7);
            checks.due("add", x.add(a, b, to), 0);
            holds(x, to, of(1016));
            checks.due("subtract", x.subtract(a, b, to), 0);
            holds(x, to, of(984));
            checks.due("multiply", x.multiply(a, b, to), 0);
            holds(x, to, of(16000));
            checks.due("power", x.power(a, b, other, to), 0);
            holds(x, to, of(1000).modPow(of(16), of(7)));
            checks.due("common", x.common(a, b, to), 0);
            holds(x, to, of(8));
            checks.due("divide", x.divide(a, b, to, other), 0);
            holds(x, to, of(62));
            holds(x, other, of(8));
            checks.due("compare", x.compare(a, b), 1);
            checks.due("compare", x.compare(b, a), -1);
            holds(x, a, of(1000));
            holds(x, b, of(16));
        }
    }

    private static void registersMayBeTheSame() {
        checks.about("4 to 9: one register may stand in several places");
        Calls x = with(of(12));
        checks.due("add(0, 0, 0)", x.add(0, 0, 0), 0);
        holds(x, 0, of(24));
        checks.due("multiply(0, 0, 0)", x.multiply(0, 0, 0), 0);
        holds(x, 0, of(576));
        checks.due("common(0, 0, 0)", x.common(0, 0, 0), 0);
        holds(x, 0, of(576));
        checks.due("divide(0, 0, 0, 1)", x.divide(0, 0, 0, 1), 0);
        holds(x, 0, ONE);
        holds(x, 1, ZERO);
        checks.due("divide(0, 0, 1, 0)", x.divide(0, 0, 1, 0), 0);
        holds(x, 0, ZERO);
        holds(x, 1, ONE);
        x = with(of(12));
        checks.due("power(0, 0, 0, 0)", x.power(0, 0, 0, 0), 0);
        holds(x, 0, ZERO);
        checks.due("subtract(0, 0, 0)", x.subtract(0, 0, 0), 0);
        holds(x, 0, ZERO);
    }

    private static void words() {
        checks.about("Terms: a WORD is 32 bits of one, as an int; word 0 is the lowest one");
        for (int i = 0; i < 8; i++) {
            Calls x = new Calls();
            x.put(0, i, -1);
            x.put(1, 0, 1);
            checks.due("multiply", x.multiply(0, 1, 2), 0);
            holds(x, 2, bit(32).subtract(ONE).shiftLeft(32 * i));
        }
        for (int i = 0; i < 7; i++) {
            Calls x = new Calls();
            x.put(0, i, -1);
            x.put(1, i, 1);
            checks.due("add, with a carry", x.add(0, 1, 2), 0);
            checks.due("get", x.get(2, i), 0);
            checks.due("get", x.get(2, i + 1), 1);
        }
        checks.about("Terms: NUMBERS are whole, not below 0");
        Calls x = with(bit(32).subtract(ONE), ONE);
        checks.due("get(0, 0)", x.get(0, 0), -1);
        checks.due("compare", x.compare(0, 1), 1);
        checks.due("add", x.add(0, 1, 2), 0);
        holds(x, 2, bit(32));
    }

    private static void sumsUpToTheLimit() {
        checks.about("4: FULL when that is no NUMBER; Terms: below 2^256");
        for (int i = 0; i < 256; i++) {
            // All bits from i on, and all bits below i: the carry runs through every word above.
            Calls x = with(Checks.LIMIT.subtract(bit(i)), bit(i).subtract(ONE), bit(i), of(77));
            checks.due("add to 2^256 - 1", x.add(0, 1, 4), 0);
            holds(x, 4, MOST);
            checks.due("add to 2^256", x.add(0, 2, 3), FULL);
            checks.due("add to 2^256", x.add(2, 0, 3), FULL);
            holds(x, 3, of(77));
        }
        Calls x = with(MOST, ZERO, ONE, of(77));
        checks.due("add 0", x.add(0, 1, 4), 0);
        holds(x, 4, MOST);
        checks.due("add 1", x.add(0, 2, 3), FULL);
        checks.due("add 2^256 - 1", x.add(0, 0, 3), FULL);
        holds(x, 3, of(77));
        checks.due("add 0 and 0", x.add(1, 1, 3), 0);
        holds(x, 3, ZERO);
    }

    private static void differencesDownToZero() {
        checks.about("5: NO when that is below 0");
        for (int i = 0; i < 256; i++) {
            Calls x = with(bit(i), bit(i).subtract(ONE), ONE, of(77));
            checks.due("subtract to 1", x.subtract(0, 1, 4), 0);
            holds(x, 4, ONE);
            checks.due("subtract to 0", x.subtract(0, 0, 5), 0);
            holds(x, 5, ZERO);
            checks.due("subtract to -1", x.subtract(1, 0, 3), NO);
            holds(x, 3, of(77));
        }
        Calls x = with(ZERO, ONE, MOST, of(77));
        checks.due("subtract 0 from 0", x.subtract(0, 0, 4), 0);
        holds(x, 4, ZERO);
        checks.due("subtract 1 from 0", x.subtract(0, 1, 3), NO);
        checks.due("subtract 2^256 - 1 from 0", x.subtract(0, 2, 3), NO);
        checks.due("subtract 2^256 - 1 from 1", x.subtract(1, 2, 3), NO);
        holds(x, 3, of(77));
        checks.due("subtract 2^256 - 1 from itself", x.subtract(2, 2, 3), 0);
        holds(x, 3, ZERO);
    }

    private static void productsUpToTheLimit() {
        checks.about("6: FULL");
        for (int i = 1; i < 256; i++) {
            Calls x = with(bit(i), bit(255 - i), bit(256 - i).subtract(ONE), of(77), bit(256 - i));
            checks.due("multiply to 2^255", x.multiply(0, 1, 5), 0);
            holds(x, 5, bit(255));
            checks.due("multiply to 2^256 - 2^i", x.multiply(0, 2, 5), 0);
            holds(x, 5, Checks.LIMIT.subtract(bit(i)));
            checks.due("multiply to 2^256", x.multiply(0, 4, 3), FULL);
            checks.due("multiply to 2^256", x.multiply(4, 0, 3), FULL);
            holds(x, 3, of(77));
        }
        for (long d : new long[] {3, 5, 17, 257, 641, 65537, 6700417}) {
            BigInteger share = MOST.divide(of(d));
            Calls x = with(of(d), share, share.add(ONE), of(77));
            checks.due("multiply to 2^256 - 1", x.multiply(0, 1, 5), 0);
            holds(x, 5, MOST);
            checks.due("multiply beyond", x.multiply(0, 2, 3), FULL);
            holds(x, 3, of(77));
        }
        Calls x = with(MOST, ZERO, of(2), bit(128), bit(128).add(ONE), bit(128).subtract(ONE));
        x.put(7, 0, 1);
        checks.due("multiply by 1", x.multiply(0, 7, 6), 0);
        holds(x, 6, MOST);
        checks.due("multiply by 0", x.multiply(0, 1, 6), 0);
        holds(x, 6, ZERO);
        checks.due("multiply 0", x.multiply(1, 0, 6), 0);
        holds(x, 6, ZERO);
        checks.due("multiply to 2^257 - 2", x.multiply(0, 2, 6), FULL);
        checks.due("multiply halves to 2^256 - 1", x.multiply(4, 5, 6), 0);
        holds(x, 6, MOST);
        checks.due("multiply halves to 2^256", x.multiply(3, 3, 7), FULL);
        checks.due("multiply halves beyond", x.multiply(4, 4, 7), FULL);
        checks.due("multiply to most", x.multiply(0, 0, 7), FULL);
        holds(x, 7, ONE);
    }

    private static void divides(BigInteger a, BigInteger b) {
        Calls x = with(a, b, of(77), of(78));
        checks.due("divide " + a + " by " + b, x.divide(0, 1, 2, 3), 0);
        holds(x, 2, a.divide(b));
        holds(x, 3, a.mod(b));
        holds(x, 0, a);
        holds(x, 1, b);
    }

    private static void quotients() {
        checks.about("7: How often b goes into a, and in rest what is left");
        for (int i = 0; i < 256; i++) {
            divides(bit(i), ONE);
            divides(bit(i), bit(i));
            divides(bit(i).subtract(ONE), bit(i));
            divides(MOST, bit(i));
            divides(MOST, Checks.LIMIT.subtract(bit(i)));
            divides(Checks.LIMIT.subtract(bit(i)), bit(i).add(ONE));
        }
        divides(ZERO, ONE);
        divides(ZERO, MOST);
        divides(MOST, ONE);
        divides(MOST, MOST);
        divides(MOST.subtract(ONE), MOST);
        checks.about("7: NO when b is 0");
        for (BigInteger a : new BigInteger[] {ZERO, ONE, MOST}) {
            Calls x = with(a, ZERO, of(77), of(78), ONE);
            checks.due("divide by 0", x.divide(0, 1, 2, 3), NO);
            holds(x, 2, of(77));
            holds(x, 3, of(78));
            checks.due("divide by 1", x.divide(0, 4, 2, 3), 0);
            holds(x, 2, a);
            holds(x, 3, ZERO);
        }
        for (int i = 0; i < 8; i++) {
            // Not 0, whichever word it is that tells so.
            Calls x = new Calls();
            x.put(1, i, 1);
            checks.due("divide by 2^" + 32 * i, x.divide(0, 1, 2, 3), 0);
        }
    }

    private static void toIsRest() {
        checks.about("7: rest (another register than to); BAD also when to is rest");
        for (int to = 0; to < 8; to++) {
            for (int rest = 0; rest < 8; rest++) {
                Calls x = with(of(100), of(7));
                checks.due("divide(0, 1, " + to + ", " + rest + ")", x.divide(0, 1, to, rest), to == rest ? BAD : 0);
                holds(x, 0, to == rest ? of(100) : to == 0 ? of(14) : rest == 0 ? of(2) : of(100));
                holds(x, 1, to == rest ? of(7) : to == 1 ? of(14) : rest == 1 ? of(2) : of(7));
                holds(x, to, to != rest ? of(14) : to == 0 ? of(100) : to == 1 ? of(7) : ZERO);
                holds(x, rest, to != rest ? of(2) : to == 0 ? of(100) : to == 1 ? of(7) : ZERO);
            }
        }
    }

    private static void raises(BigInteger a, BigInteger b, BigInteger m, BigInteger want) {
        Calls x = with(a, b, m, of(77));
        checks.due(a + "^" + b + " modulo " + m, x.power(0, 1, 2, 3), 0);
        holds(x, 3, want);
    }

    private static void powers() {
        checks.about("8: a^b modulo m");
        BigInteger m = MOST.subtract(of(188));
        raises(of(2), of(255), MOST, bit(255));
        raises(of(2), of(256), MOST, ONE);
        raises(of(2), of(257), MOST, of(2));
        raises(MOST, MOST, m, MOST.modPow(MOST, m));
        raises(m, ONE, m, ZERO);
        raises(m.subtract(ONE), of(2), m, ONE);
        raises(m.subtract(ONE), MOST, m, m.subtract(ONE));
        raises(m.add(ONE), MOST, m, ONE);
        for (int i = 0; i < 256; i++) {
            // One bit of the exponent, and all below it.
            raises(of(3), bit(i), m, of(3).modPow(bit(i), m));
            raises(of(3), bit(i).subtract(ONE), m, of(3).modPow(bit(i).subtract(ONE), m));
        }
        checks.about("8: NO when m is 0");
        for (BigInteger b : new BigInteger[] {ZERO, ONE, MOST}) {
            Calls x = with(of(5), b, ZERO, of(77), ONE);
            checks.due("power modulo 0", x.power(0, 1, 2, 3), NO);
            holds(x, 3, of(77));
            checks.due("power modulo 1", x.power(0, 1, 4, 3), 0);
            holds(x, 3, ZERO);
        }
        for (int i = 0; i < 8; i++) {
            Calls x = new Calls();
            x.put(1, i, 2);
            checks.due("power modulo 2^" + (32 * i + 1), x.power(0, 0, 1, 2), 0);
            holds(x, 2, ONE);
        }
    }

    private static void powersOfNothing() {
        BigInteger[] bases = {ZERO, ONE, of(2), bit(255), MOST};
        for (BigInteger a : bases) {
            checks.about("8: 0^0 is 1");
            for (BigInteger m : new BigInteger[] {of(2), of(3), bit(32), bit(255), MOST}) {
                raises(a, ZERO, m, ONE);
                raises(ZERO, a, m, a.signum() == 0 ? ONE : ZERO);
                raises(ONE, a, m, ONE);
                raises(a, ONE, m, a.mod(m));
            }
            checks.about("8: modulo 1 all is 0");
            for (BigInteger b : bases) {
                raises(a, b, ONE, ZERO);
            }
        }
    }

    private static void divisor(BigInteger a, BigInteger b, BigInteger want) {
        Calls x = with(a, b, of(77));
        checks.due("common of " + a + " and " + b, x.common(0, 1, 2), 0);
        holds(x, 2, want);
        checks.due("common of " + b + " and " + a, x.common(1, 0, 3), 0);
        holds(x, 3, want);
        holds(x, 0, a);
        holds(x, 1, b);
    }

    private static void commonDivisors() {
        checks.about("9: (0 for both 0)");
        divisor(ZERO, ZERO, ZERO);
        checks.about("9: The greatest common divisor of a and b");
        for (BigInteger a : new BigInteger[] {ONE, of(2), bit(32), bit(255), MOST}) {
            divisor(ZERO, a, a);
            divisor(ONE, a, ONE);
            divisor(a, a, a);
        }
        divisor(MOST, MOST.subtract(ONE), ONE);
        divisor(MOST, of(65537), of(65537));
        divisor(MOST, of(65539), ONE);
        for (int i = 0; i < 255; i++) {
            divisor(bit(i), bit(255), bit(i));
            divisor(bit(i).multiply(of(3)), bit(i), bit(i));
            divisor(bit(i).subtract(ONE), MOST, MOST.gcd(bit(i).subtract(ONE)));
        }
    }

    private static void orders() {
        checks.about("10: -1, 0, 1 as a is below b, as b, above");
        for (int i = 0; i < 256; i++) {
            Calls x = with(bit(i), bit(i).subtract(ONE), bit(i), bit(255), MOST);
            checks.due("compare", x.compare(0, 1), 1);
            checks.due("compare", x.compare(1, 0), -1);
            checks.due("compare", x.compare(0, 2), 0);
            checks.due("compare", x.compare(0, 3), i == 255 ? 0 : -1);
            checks.due("compare", x.compare(4, 0), 1);
            checks.due("compare", x.compare(1, 7), i == 0 ? 0 : 1);
        }
        for (int i = 0; i < 8; i++) {
            // The highest word that differs decides, and a word is not below 0.
            Calls x = new Calls();
            for (int j = 0; j < i; j++) {
                x.put(0, j, -1);
            }
            x.put(1, i, 1);
            checks.due("compare", x.compare(0, 1), -1);
            checks.due("compare", x.compare(1, 0), 1);
            x.put(0, i, Integer.MIN_VALUE);
            x.put(1, i, Integer.MAX_VALUE);
            checks.due("compare", x.compare(0, 1), 1);
            checks.due("compare", x.compare(1, 0), -1);
        }
        checks.about("10: 2 when one is no register");
        Calls x = new Calls();
        checks.due("compare(0, 7)", x.compare(0, 7), 0);
        checks.due("compare(7, 0)", x.compare(7, 0), 0);
        checks.due("compare(0, 8)", x.compare(0, 8), 2);
        checks.due("compare(8, 0)", x.compare(8, 0), 2);
        checks.due("compare(-1, 7)", x.compare(-1, 7), 2);
        checks.due("compare(7, -1)", x.compare(7, -1), 2);
        checks.due("compare(8, 8)", x.compare(8, 8), 2);
    }
}
