import java.math.BigInteger;
import java.util.ArrayList;
import java.util.List;
import java.util.Map;
import java.util.TreeMap;

/**
 * The document's words over BigInteger, as plainly as they go: every check reads the whole tape,
 * and every witness is tried.
 */
final class Reference {
    private static final int BAD = -1;
    private static final int NO = -2;
    private static final int FULL = -3;
    private static final BigInteger ONE = BigInteger.ONE;

    /** A fault and its place, which end the reading. */
    private static final class Fault extends Exception {
        private static final long serialVersionUID = 1L;
        final int kind;
        final int place;

        Fault(int kind, int place) {
            this.kind = kind;
            this.place = place;
        }
    }

    private final BigInteger[] registers = new BigInteger[8];
    private List<Integer> tape = new ArrayList<>();
    private List<BigInteger> told = new ArrayList<>();
    private int place = NO;
    private int next;

    Reference() {
        for (int r = 0; r < 8; r++) {
            registers[r] = BigInteger.ZERO;
        }
    }

    private static boolean missing(int... of) {
        for (int r : of) {
            if (r < 0 || r > 7) {
                return true;
            }
        }
        return false;
    }

    boolean put(int register, int i, int v) {
        if (missing(register, i)) {
            return false;
        }
        BigInteger word = BigInteger.valueOf(v & 0xFFFFFFFFL).shiftLeft(32 * i);
        BigInteger old = BigInteger.valueOf(get(register, i) & 0xFFFFFFFFL).shiftLeft(32 * i);
        registers[register] = registers[register].subtract(old).add(word);
        return true;
    }

    int get(int register, int i) {
        return missing(register, i) ? 0 : registers[register].shiftRight(32 * i).intValue();
    }

    private int keep(BigInteger number, int to) {
        registers[to] = number;
        return 0;
    }

    int add(int a, int b, int to) {
        if (missing(a, b, to)) {
            return BAD;
        }
        BigInteger sum = registers[a].add(registers[b]);
        return sum.compareTo(Checks.LIMIT) < 0 ? keep(sum, to) : FULL;
    }

    int subtract(int a, int b, int to) {
        if (missing(a, b, to)) {
            return BAD;
        }
        BigInteger difference = registers[a].subtract(registers[b]);
        return difference.signum() >= 0 ? keep(difference, to) : NO;
    }

    int multiply(int a, int b, int to) {
        if (missing(a, b, to)) {
            return BAD;
        }
        BigInteger product = registers[a].multiply(registers[b]);
        return product.compareTo(Checks.LIMIT) < 0 ? keep(product, to) : FULL;
    }

    int divide(int a, int b, int to, int rest) {
        if (missing(a, b, to, rest) || to == rest) {
            return BAD;
        }
        if (registers[b].signum() == 0) {
            return NO;
        }
        BigInteger[] both = registers[a].divideAndRemainder(registers[b]);
        keep(both[1], rest);
        return keep(both[0], to);
    }

    int power(int a, int b, int m, int to) {
        if (missing(a, b, m, to)) {
            return BAD;
        }
        return registers[m].signum() == 0 ? NO : keep(registers[a].modPow(registers[b], registers[m]), to);
    }

    int common(int a, int b, int to) {
        return missing(a, b, to) ? BAD : keep(registers[a].gcd(registers[b]), to);
    }

    int compare(int a, int b) {
        return missing(a, b) ? 2 : registers[a].compareTo(registers[b]);
    }

    int say(int v) {
        if (tape.size() == 4000) {
            return FULL;
        }
        tape.add(v);
        return tape.size();
    }

    boolean cut(int n) {
        if (n < 0 || n > tape.size()) {
            return false;
        }
        tape = new ArrayList<>(tape.subList(0, n));
        return true;
    }

    int length() {
        return tape.size();
    }

    int at(int i) {
        return i < 0 || i >= tape.size() ? 0 : tape.get(i);
    }

    int place() {
        return place;
    }

    boolean tell(int l, int to) {
        if (missing(to) || l < 0 || l >= told.size()) {
            return false;
        }
        registers[to] = told.get(l);
        return true;
    }

    int check() {
        told = new ArrayList<>();
        place = NO;
        next = 0;
        List<BigInteger> found = new ArrayList<>();
        try {
            while (next < tape.size()) {
                if (found.size() == 200) {
                    throw new Fault(2, next);
                }
                found.add(line(found));
            }
        } catch (Fault fault) {
            place = fault.place;
            return -100 - fault.kind;
        }
        told = found;
        return found.size();
    }

    private int take() throws Fault {
        if (next == tape.size()) {
            throw new Fault(1, tape.size());
        }
        next++;
        return tape.get(next - 1);
    }

    private int take(int least, int most) throws Fault {
        int v = take();
        if (v < least || v > most) {
            throw new Fault(2, next - 1);
        }
        return v;
    }

    private static boolean isPrime(int p) {
        for (int d = 2; d < p; d++) {
            if (p % d == 0) {
                return false;
            }
        }
        return p > 1;
    }

    private BigInteger line(List<BigInteger> before) throws Fault {
        int kind = take(1, 3);
        if (kind == 1) {
            int p = take();
            if (p < 2 || p > 65535 || !isPrime(p)) {
                throw new Fault(3, next - 1);
            }
            return BigInteger.valueOf(p);
        }
        int start = next;
        int words = take(1, 8);
        BigInteger n = BigInteger.ZERO;
        for (int i = 0; i < words; i++) {
            int word = take();
            if (i == words - 1 && word == 0) {
                throw new Fault(2, next - 1);
            }
            n = n.add(BigInteger.valueOf(word & 0xFFFFFFFFL).shiftLeft(32 * i));
        }
        if (n.compareTo(BigInteger.TWO) <= 0) {
            throw new Fault(4, start);
        }
        int root = 0;
        if (kind == 2) {
            root = take();
            witnessInRange(root, n, next - 1);
        }
        int mPlace = next;
        int m = take(1, 40);
        BigInteger[] p = new BigInteger[m];
        int[] e = new int[m];
        int[] a = new int[m];
        int[] lPlace = new int[m];
        for (int f = 0; f < m; f++) {
            lPlace[f] = next;
            p[f] = before.get(take(0, before.size() - 1));
            if (f > 0 && p[f].compareTo(p[f - 1]) <= 0) {
                throw new Fault(5, lPlace[f]);
            }
            e[f] = take(1, 255);
            a[f] = kind == 3 ? take() : root;
        }
        judge(kind, n, p, e, a, mPlace, lPlace);
        return n;
    }

    private static void witnessInRange(int a, BigInteger n, int at) throws Fault {
        if (a < 2 || BigInteger.valueOf(a).compareTo(n) >= 0) {
            throw new Fault(8, at);
        }
    }

    private static void judge(int kind, BigInteger n, BigInteger[] p, int[] e, int[] a, int mPlace, int[] lPlace)
            throws Fault {
        BigInteger less = n.subtract(ONE);
        BigInteger product = ONE;
        for (int f = 0; f < p.length; f++) {
            product = product.multiply(p[f].pow(e[f]));
        }
        if (kind == 2 ? !product.equals(less) : less.mod(product).signum() != 0) {
            throw new Fault(6, mPlace);
        }
        if (kind == 3 && product.multiply(product).compareTo(n) <= 0) {
            throw new Fault(7, mPlace);
        }
        for (int f = 0; kind == 3 && f < p.length; f++) {
            witnessInRange(a[f], n, lPlace[f] + 2);
        }
        for (int f = 0; f < p.length; f++) {
            if (!closes(a[f], n)) {
                throw new Fault(9, kind == 2 ? mPlace - 1 : lPlace[f] + 2);
            }
            if (!parts(kind, a[f], n, p[f])) {
                throw new Fault(10, lPlace[f]);
            }
        }
    }

    private static boolean closes(int a, BigInteger n) {
        return BigInteger.valueOf(a).modPow(n.subtract(ONE), n).equals(ONE);
    }

    private static boolean parts(int kind, int a, BigInteger n, BigInteger p) {
        BigInteger power = BigInteger.valueOf(a).modPow(n.subtract(ONE).divide(p), n);
        return kind == 2 ? !power.equals(ONE) : power.subtract(ONE).gcd(n).equals(ONE);
    }

    int prove(int register) {
        if (missing(register)) {
            return BAD;
        }
        int lines = check();
        if (lines < 0) {
            return lines;
        }
        BigInteger n = registers[register];
        if (told.contains(n)) {
            return told.indexOf(n);
        }
        List<Integer> added = new ArrayList<>();
        List<BigInteger> numbers = new ArrayList<>(told);
        if (!plan(n, added, numbers) || numbers.size() > 200 || tape.size() + added.size() > 4000) {
            return NO;
        }
        tape.addAll(added);
        told = numbers;
        return told.size() - 1;
    }

    /** The ints to add, and the numbers of all lines then; false when there is no such line. */
    private static boolean plan(BigInteger n, List<Integer> added, List<BigInteger> numbers) {
        if (n.compareTo(BigInteger.valueOf(65535)) <= 0) {
            added.addAll(List.of(1, n.intValue()));
            numbers.add(n);
            return isPrime(n.intValue());
        }
        List<BigInteger> tried = new ArrayList<>();
        for (int p = 2; p <= 1009; p++) {
            if (isPrime(p)) {
                tried.add(BigInteger.valueOf(p));
            }
        }
        int small = tried.size();
        for (BigInteger number : numbers) {
            if (number.compareTo(BigInteger.valueOf(1009)) > 0) {
                tried.add(number);
            }
        }
        BigInteger left = n.subtract(ONE);
        Map<BigInteger, Integer> factors = new TreeMap<>();
        for (int t = 0; t < tried.size(); t++) {
            BigInteger p = tried.get(t);
            while (left.mod(p).signum() == 0) {
                left = left.divide(p);
                factors.merge(p, 1, Integer::sum);
            }
            if (t < small && factors.containsKey(p) && !numbers.contains(p)) {
                added.addAll(List.of(1, p.intValue()));
                numbers.add(p);
            }
        }
        if (factors.size() > 40) {
            return false;
        }
        int kind = left.equals(ONE) ? 2 : 3;
        BigInteger product = n.subtract(ONE).divide(left);
        if (kind == 3 && product.multiply(product).compareTo(n) <= 0) {
            return false;
        }
        boolean done = addLine(kind, n, factors, added, numbers);
        numbers.add(n);
        return done;
    }

    private static boolean addLine(int kind, BigInteger n, Map<BigInteger, Integer> factors, List<Integer> added,
            List<BigInteger> numbers) {
        int words = (n.bitLength() + 31) / 32;
        added.add(kind);
        added.add(words);
        for (int i = 0; i < words; i++) {
            added.add(n.shiftRight(32 * i).intValue());
        }
        if (kind == 2) {
            int root = leastWitness(kind, n, new ArrayList<>(factors.keySet()));
            if (root == 0) {
                return false;
            }
            added.add(root);
        }
        added.add(factors.size());
        for (Map.Entry<BigInteger, Integer> factor : factors.entrySet()) {
            added.add(numbers.indexOf(factor.getKey()));
            added.add(factor.getValue());
            if (kind == 3) {
                int a = leastWitness(kind, n, List.of(factor.getKey()));
                if (a == 0) {
                    return false;
                }
                added.add(a);
            }
        }
        return true;
    }

    private static int leastWitness(int kind, BigInteger n, List<BigInteger> primes) {
        for (int a = 2; a <= 200; a++) {
            boolean right = closes(a, n);
            for (BigInteger p : primes) {
                right = right && parts(kind, a, n, p);
            }
            if (right) {
                return a;
            }
        }
        return 0;
    }
}
