import java.math.BigInteger;
import java.util.Random;

/** Runs of up to 512 calls, every answer against the reference's (promises 1 to 18). */
public final class RandomRunsTest {
    private static final int[] EDGE_WORDS = {0, 1, 2, 3, -1, -2, Integer.MIN_VALUE, Integer.MAX_VALUE, 0x10000, 65537};

    private final Checks checks = new Checks("RandomRunsTest");
    private Random random;
    private Calls x;
    private Reference y;
    private String run;

    public static void main(String[] args) {
        RandomRunsTest test = new RandomRunsTest();
        for (int seed = 0; seed < 2000; seed++) {
            test.begin("sums", seed);
            test.sums();
        }
        for (int seed = 0; seed < 2000; seed++) {
            test.begin("small lines", seed);
            test.smallLines();
        }
        for (int seed = 0; seed < 150; seed++) {
            test.begin("chains", seed);
            test.chains();
        }
        test.checks.finish();
    }

    private void begin(String kind, int seed) {
        random = new Random(seed);
        x = new Calls();
        y = new Reference();
        run = kind + " " + seed;
    }

    private void due(String call, Object got, Object want) {
        checks.due(run + " call " + (Calls.MOST - x.left()) + " " + call, got, want);
    }

    private int register() {
        return random.nextInt(60) == 0 ? (random.nextBoolean() ? -1 : 8) : random.nextInt(8);
    }

    private int word() {
        return random.nextInt(3) == 0 ? random.nextInt() : EDGE_WORDS[random.nextInt(EDGE_WORDS.length)];
    }

    private void put(int r, int i, int v) {
        due("put(" + r + ", " + i + ", " + v + ")", x.put(r, i, v), y.put(r, i, v));
    }

    private void get(int r, int i) {
        due("get(" + r + ", " + i + ")", x.get(r, i), y.get(r, i));
    }

    private void see(int r) {
        for (int i = 0; i < 8; i++) {
            get(r, i);
        }
    }

    private void seeRegisters() {
        for (int r = 0; r < 8; r++) {
            see(r);
        }
    }

    private void say(int v) {
        due("say(" + v + ")", x.say(v), y.say(v));
    }

    private void cut(int n) {
        due("cut(" + n + ")", x.cut(n), y.cut(n));
    }

    private int check() {
        int want = y.check();
        due("check()", x.check(), want);
        due("place()", x.place(), y.place());
        return want;
    }

    private void tell(int l, int to) {
        due("tell(" + l + ", " + to + ")", x.tell(l, to), y.tell(l, to));
        see(to);
    }

    private void prove(int r) {
        int from = y.length();
        due("prove(" + r + ")", x.prove(r), y.prove(r));
        due("place()", x.place(), y.place());
        due("length()", x.length(), y.length());
        for (int i = Math.max(from - 2, -1); i <= y.length(); i++) {
            due("at(" + i + ")", x.at(i), y.at(i));
        }
    }

    private void putSome(int r) {
        int words = random.nextInt(9);
        for (int i = 0; i < 8; i++) {
            put(r, i, i < words ? word() : 0);
        }
    }

    private void sums() {
        while (x.left() > 100) {
            int a = register();
            int b = register();
            int to = register();
            int other = register();
            switch (random.nextInt(12)) {
                case 0: put(a, register(), word()); break;
                case 1: get(a, register()); break;
                case 2:
                case 3:
                case 4: putSome(a); break;
                case 5: due("add", x.add(a, b, to), y.add(a, b, to)); break;
                case 6: due("subtract", x.subtract(a, b, to), y.subtract(a, b, to)); break;
                case 7: due("multiply", x.multiply(a, b, to), y.multiply(a, b, to)); break;
                case 8: due("divide", x.divide(a, b, to, other), y.divide(a, b, to, other)); see(other); break;
                case 9: due("power", x.power(a, b, other, to), y.power(a, b, other, to)); break;
                case 10: due("common", x.common(a, b, to), y.common(a, b, to)); break;
                default: due("compare", x.compare(a, b), y.compare(a, b)); break;
            }
            see(to);
        }
        seeRegisters();
    }

    /** Lines about small numbers, most of them right but for one int. */
    private void smallLines() {
        int[] small = {2, 3, 5, 7, 11, 13};
        int lines = 0;
        int rightLength = 0;
        int start = random.nextInt(7);
        for (int i = 0; i < start; i++) {
            say(1);
            say(i < small.length ? small[i] : 2);
        }
        while (x.left() > 190) {
            switch (random.nextInt(8)) {
                case 0: say(1); say(random.nextInt(8) == 0 ? random.nextInt(70000) - 2 : small[random.nextInt(6)]); break;
                case 1:
                case 2: sayLine(2, lines); break;
                case 3:
                case 4: sayLine(3, lines); break;
                case 5: say(random.nextInt(5)); break;
                case 6: tell(random.nextInt(12) - 1, register()); break;
                default:
                    int to = register();
                    put(to, 0, random.nextInt(random.nextBoolean() ? 100 : 200000));
                    prove(to);
                    break;
            }
            int answer = check();
            tell(random.nextInt(12) - 1, register());
            if (answer >= 0) {
                rightLength = y.length();
                lines = answer;
            } else {
                cut(Math.min(rightLength, y.length()));
            }
            if (random.nextInt(8) == 0) {
                cut(random.nextInt(y.length() + 3) - 1);
                rightLength = Math.min(rightLength, y.length());
                tell(random.nextInt(12) - 1, register());
            }
        }
        seeRegisters();
    }

    private void sayLine(int kind, int lines) {
        int n = 3 + random.nextInt(random.nextInt(3) == 0 ? 300 : 40);
        say(kind);
        say(random.nextInt(20) == 0 ? random.nextInt(10) : 1);
        say(random.nextInt(20) == 0 ? random.nextInt(4) - 1 : n);
        if (kind == 2) {
            say(2 + random.nextInt(4) - random.nextInt(2));
        }
        int[] factor = new int[8];
        int[] exponent = new int[8];
        int m = 0;
        Reference copy = new Reference();
        for (int i = 0; i < y.length(); i++) {
            copy.say(y.at(i));
        }
        copy.cut(y.length() - (kind == 2 ? 4 : 3));
        copy.check();
        int left = n - 1;
        for (int p = 2; p <= left && m < 8; p++) {
            int e = 0;
            while (left % p == 0) {
                left /= p;
                e++;
            }
            for (int l = 0; l < lines && e > 0; l++) {
                if (copy.tell(l, 0) && copy.get(0, 0) == p) {
                    factor[m] = l;
                    exponent[m] = e;
                    m++;
                    break;
                }
            }
        }
        say(m);
        boolean mixed = random.nextInt(12) == 0;
        for (int f = 0; f < m; f++) {
            say(random.nextInt(25) == 0 ? random.nextInt(lines + 1) : factor[mixed ? m - 1 - f : f]);
            say(random.nextInt(25) == 0 ? random.nextInt(300) : exponent[f]);
            if (kind == 3) {
                say(2 + random.nextInt(5) - random.nextInt(2));
            }
        }
    }

    /** Proves larger and larger primes, and now and then spoils an int of the tape. */
    private void chains() {
        BigInteger built = BigInteger.valueOf(new int[] {3, 1013, 60013, 65537}[random.nextInt(4)]);
        while (x.left() > 210) {
            for (int i = 0; i < 8; i++) {
                put(0, i, built.shiftRight(32 * i).intValue());
            }
            prove(0);
            tell(y.length() == 0 ? 0 : random.nextInt(30), register());
            if (random.nextInt(4) == 0) {
                spoil();
            }
            built = above(built);
        }
        seeRegisters();
    }

    private BigInteger above(BigInteger prime) {
        if (prime.bitLength() > 240) {
            return BigInteger.valueOf(1 + random.nextInt(100000));
        }
        BigInteger step = prime.shiftLeft(1);
        BigInteger from = new BigInteger(1 + random.nextInt(Math.min(15, prime.bitLength())), random);
        BigInteger n = step.multiply(from.add(BigInteger.ONE)).add(BigInteger.ONE);
        for (int i = 0; i < 10000 && !n.isProbablePrime(40); i++) {
            n = n.add(step);
        }
        return random.nextInt(6) == 0 ? n.add(step) : n;
    }

    /** Puts the tape's tail back with one int changed, sees the fault, and mends it. */
    private void spoil() {
        int n = y.length();
        int at = n - 1 - random.nextInt(Math.min(n, 25));
        int[] tail = new int[n - at];
        for (int i = at; i < n; i++) {
            tail[i - at] = y.at(i);
        }
        cut(at);
        say(tail[0] + (random.nextInt(3) == 0 ? word() : random.nextInt(5) - 2));
        for (int i = 1; i < tail.length; i++) {
            say(tail[i]);
        }
        check();
        tell(0, 7);
        due("prove(0)", x.prove(0), y.prove(0));
        cut(at);
        check();
        for (int v : tail) {
            say(v);
        }
        check();
        tell(random.nextInt(30), 7);
    }
}
