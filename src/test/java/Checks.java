import java.math.BigInteger;
import java.util.HashSet;
import java.util.Set;

/** What the tests have in common: counting wrong answers, and whole numbers in registers. */
final class Checks {
    static final BigInteger LIMIT = BigInteger.ONE.shiftLeft(256);

    private final String name;
    private String sentence = "";
    private final Set<String> sentences = new HashSet<>();
    private int asked = 0;
    private int wrong = 0;

    Checks(String name) {
        this.name = name;
    }

    /** The document's sentence that the answers from here on belong to. */
    void about(String ofDocument) {
        sentence = " [" + ofDocument + "]";
        sentences.add(sentence);
    }

    void due(String call, Object got, Object want) {
        asked++;
        if (!got.equals(want)) {
            wrong++;
            System.out.println(name + sentence + ": " + call + " answered " + got + ", due is " + want);
        }
    }

    /** Ends the program with exit code 1 if an answer was wrong. */
    void finish() {
        String of = sentences.isEmpty() ? "" : " to " + sentences.size() + " sentences";
        System.out.println(name + ": " + asked + " answers" + of + ", " + wrong + " wrong");
        if (wrong != 0 || asked == 0) {
            System.exit(1);
        }
    }

    static BigInteger big(String digits) {
        return new BigInteger(digits);
    }

    static void set(Calls x, int register, BigInteger number) {
        for (int i = 0; i < 8; i++) {
            x.put(register, i, number.shiftRight(32 * i).intValue());
        }
    }

    static void set(Calls x, int register, long number) {
        set(x, register, BigInteger.valueOf(number));
    }

    static BigInteger number(Calls x, int register) {
        BigInteger number = BigInteger.ZERO;
        for (int i = 7; i >= 0; i--) {
            number = number.shiftLeft(32).add(BigInteger.valueOf(x.get(register, i) & 0xFFFFFFFFL));
        }
        return number;
    }

    static void say(Calls x, int... ints) {
        for (int v : ints) {
            x.say(v);
        }
    }

    static Calls withTape(int... ints) {
        Calls x = new Calls();
        say(x, ints);
        return x;
    }

    static String tape(Calls x) {
        return tail(x, 0);
    }

    /** The tape from an int on. */
    static String tail(Calls x, int from) {
        StringBuilder text = new StringBuilder();
        int length = x.length();
        for (int i = from; i < length; i++) {
            text.append(i == from ? "" : " ").append(x.at(i));
        }
        return text.toString();
    }

    /** A new object with the tape of another one. */
    static Calls copyOfTape(Calls x) {
        Calls copy = new Calls();
        int length = x.length();
        for (int i = 0; i < length; i++) {
            copy.say(x.at(i));
        }
        return copy;
    }
}
