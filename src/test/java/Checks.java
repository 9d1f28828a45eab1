import java.math.BigInteger;

/** What the tests have in common: counting wrong answers, and whole numbers in registers. */
final class Checks {
    static final BigInteger LIMIT = BigInteger.ONE.shiftLeft(256);

    private final String name;
    private int asked = 0;
    private int wrong = 0;

    Checks(String name) {
        this.name = name;
    }

    void due(String call, Object got, Object want) {
        asked++;
        if (!got.equals(want)) {
            wrong++;
            System.out.println(name + ": " + call + " answered " + got + ", due is " + want);
        }
    }

    /** Ends the program with exit code 1 if an answer was wrong. */
    void finish() {
        System.out.println(name + ": " + asked + " answers, " + wrong + " wrong");
        if (wrong != 0 || asked == 0) {
            System.exit(1);
        }
    }

    static BigInteger big(String digits) {
        return new BigInteger(digits);
    }

    static void set(PrimeCertificates x, int register, BigInteger number) {
        for (int i = 0; i < 8; i++) {
            x.put(register, i, number.shiftRight(32 * i).intValue());
        }
    }

    static void set(PrimeCertificates x, int register, long number) {
        set(x, register, BigInteger.valueOf(number));
    }

    static BigInteger number(PrimeCertificates x, int register) {
        BigInteger number = BigInteger.ZERO;
        for (int i = 7; i >= 0; i--) {
            number = number.shiftLeft(32).add(BigInteger.valueOf(x.get(register, i) & 0xFFFFFFFFL));
        }
        return number;
    }

    static void say(PrimeCertificates x, int... ints) {
        for (int v : ints) {
            x.say(v);
        }
    }

    static PrimeCertificates withTape(int... ints) {
        PrimeCertificates x = new PrimeCertificates();
        say(x, ints);
        return x;
    }

    static String tape(PrimeCertificates x) {
        StringBuilder text = new StringBuilder();
        for (int i = 0; i < x.length(); i++) {
            text.append(i == 0 ? "" : " ").append(x.at(i));
        }
        return text.toString();
    }
}
