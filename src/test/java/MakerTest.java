import java.math.BigInteger;

/** Promise 18: prove, and the lines that it adds. Its limits are seen in MakerEdgesTest. */
public final class MakerTest {
    private static final int NO = PrimeCertificates.NO;

    private static final Checks checks = new Checks("MakerTest");

    public static void main(String[] args) {
        smallNumbers();
        numbersToldAlready();
        wholeLines();
        partLines();
        factorsFromLines();
        firstLineThatTells();
        lastTriedPrime();
        leastWitnesses();
        notPrime();
        badAndFaults();
        largePrime();
        checks.finish();
    }

    /** Answer and added ints of prove for n on a tape; added is empty when there are none. */
    private static Calls due(int[] before, BigInteger n, int answer, String added) {
        Calls x = Checks.withTape(before);
        String old = Checks.tape(x);
        Checks.set(x, 3, n);
        checks.due("prove " + n, x.prove(3), answer);
        String gap = old.isEmpty() || added.isEmpty() ? "" : " ";
        checks.due("tape after " + n, Checks.tape(x), old + gap + added);
        checks.due("register after " + n, Checks.number(x, 3), n);
        checks.due("place() after " + n, x.place(), NO);
        if (answer >= 0) {
            checks.due("tell after " + n, x.tell(answer, 4), true);
            checks.due("told after " + n, Checks.number(x, 4), n);
            Calls fresh = new Calls();
            for (int i = 0; i < x.length(); i++) {
                fresh.say(x.at(i));
            }
            checks.due("a fresh check() after " + n, fresh.check(), x.check());
        }
        return x;
    }

    private static Calls due(int[] before, long n, int answer, String added) {
        return due(before, BigInteger.valueOf(n), answer, added);
    }

    private static int[] tape(int... ints) {
        return ints;
    }

    private static BigInteger bit(int i) {
        return BigInteger.ONE.shiftLeft(i);
    }

    private static void smallNumbers() {
        due(tape(), 2, 0, "1 2");
        due(tape(), 3, 0, "1 3");
        due(tape(), 1009, 0, "1 1009");
        due(tape(), 65521, 0, "1 65521");
        due(tape(1, 3), 2, 1, "1 2");
        for (int n : tape(0, 1, 4, 9, 63001, 65533, 65535)) {
            due(tape(), n, NO, "");
            due(tape(1, 7), n, NO, "");
        }
        // Not small, though the lowest word is a small prime.
        due(tape(), bit(34).add(BigInteger.valueOf(5)), NO, "");
        due(tape(), bit(255).add(BigInteger.valueOf(7)), NO, "");
    }

    private static void numbersToldAlready() {
        due(tape(1, 3, 1, 2, 1, 3), 3, 0, "");
        due(tape(1, 2, 2, 1, 3, 2, 1, 0, 1), 3, 1, "");
        Calls x = due(tape(), 65537, 1, "1 2 2 1 65537 3 1 0 16");
        checks.due("prove again", x.prove(3), 1);
        checks.due("length() after prove again", x.length(), 9);
        x.cut(2);
        checks.due("prove after a cut", x.prove(3), 1);
        checks.due("length() after a cut", x.length(), 9);
        x.cut(0);
        x.say(1);
        x.say(5);
        checks.due("prove on another tape", x.prove(3), 2);
        checks.due("another tape", Checks.tape(x), "1 5 1 2 2 1 65537 3 1 1 16");
    }

    private static void wholeLines() {
        due(tape(1, 2), 65537, 1, "2 1 65537 3 1 0 16");
        due(tape(), 65539, 4, "1 2 1 3 1 11 1 331 2 1 65539 2 4 0 1 1 2 2 1 3 1");
        due(tape(1, 11, 1, 7), 65539, 5, "1 2 1 3 1 331 2 1 65539 2 4 2 1 3 2 0 1 4 1");
        due(tape(), Integer.MAX_VALUE, 7,
                "1 2 1 3 1 7 1 11 1 31 1 151 1 331 2 1 2147483647 7 7 0 1 1 2 2 1 3 1 4 1 5 1 6 1");
        due(tape(), BigInteger.valueOf(3).shiftLeft(189).add(BigInteger.ONE), 2,
                "1 2 1 3 2 6 1 0 0 0 0 1610612736 10 2 0 189 1 1");
    }

    private static void partLines() {
        // A factor above 1009 stays: F F is just above N, or just not.
        due(tape(), 1886503, 3, "1 2 1 3 1 229 3 1 1886503 3 0 1 3 1 1 3 2 1 2");
        due(tape(), 1905781, NO, "");
        due(tape(), 1424443, 3, "1 2 1 3 1 199 3 1 1424443 3 0 1 2 1 1 3 2 1 2");
        due(tape(), 1441201, NO, "");
        due(tape(), 1320287, NO, "");
        due(tape(), 65543, NO, "");
        due(tape(), (1L << 32) - 5, NO, "");
        due(tape(1, 7), 65581, NO, "");
        // The same with F F and N of eight words each; F is 3 2^126.
        due(tape(), Checks.big("65133050195990359925758679067386947965081428648194666127352843234406991659009"), 2,
                "1 2 1 3 3 8 1 0 0 1073741824 -595 -1 -1 -1879048193 2 0 126 11 1 1 2");
        due(tape(), Checks.big("65133050195990359925758679067386948193240755668683905879545517517407577440257"), NO,
                "");
    }

    private static void factorsFromLines() {
        due(tape(1, 60013), 1320287, 3, "1 2 1 11 2 1 1320287 5 3 1 1 2 1 0 1");
        due(tape(1, 1093), 65581, 4, "1 2 1 3 1 5 2 1 65581 2 4 1 2 2 1 3 1 0 1");
        // The factors go up, though the lines that tell them do not.
        due(tape(1, 60013, 1, 1013), 1094277043, 4, "1 2 1 3 2 1 1094277043 2 4 2 1 3 2 1 1 0 1");
        due(tape(1, 60013), 1094277043, 3, "1 2 1 3 3 1 1094277043 3 1 1 2 2 2 2 0 1 2");
        due(tape(1, 1013), 1094277043, NO, "");
        due(tape(1, 7, 1, 60013, 1, 1019, 1, 1013), 1362861262643L, 6,
                "1 2 1 11 2 2 1356629811 317 2 5 4 1 5 1 3 1 2 1 1 1");
        due(tape(1, 7, 1, 1019, 1, 60013, 1, 1013), 1362861262643L, 6,
                "1 2 1 11 2 2 1356629811 317 2 5 4 1 5 1 3 1 1 1 2 1");
        // As often as it goes.
        due(tape(1, 1013), 4104677, 2, "1 2 2 1 4104677 2 2 1 2 0 2");
    }

    private static void firstLineThatTells() {
        due(tape(1, 2, 1, 1013, 1, 1013, 1, 2), 4104677, 4, "2 1 4104677 2 2 0 2 1 2");
        due(tape(1, 3, 1, 3, 1, 2, 1, 2), 65539, 6, "1 11 1 331 2 1 65539 2 4 2 1 0 2 4 1 5 1");
        // A line of kind 2 tells 3.
        due(tape(1, 2, 2, 1, 3, 2, 1, 0, 1), 65539, 4, "1 11 1 331 2 1 65539 2 4 0 1 1 2 2 1 3 1");
    }

    private static void lastTriedPrime() {
        due(tape(), 72649, 3, "1 2 1 3 1 1009 2 1 72649 7 3 0 3 1 2 2 1");
        due(tape(1, 1009, 1, 1013), 72649, 4, "1 2 1 3 2 1 72649 7 3 2 3 3 2 0 1");
        due(tape(), 72937, NO, "");
        due(tape(1, 1013), 72937, 3, "1 2 1 3 2 1 72937 5 3 1 3 2 2 0 1");
    }

    private static void leastWitnesses() {
        due(tape(), 9470788801L, 6,
                "1 2 1 3 1 5 1 11 1 181 1 991 2 2 880854209 2 197 6 0 6 1 1 2 2 3 1 4 1 5 1");
        // Each factor has a witness of its own.
        due(tape(), 1090849, 3, "1 2 1 3 1 11 3 1 1090849 3 0 5 13 1 1 2 2 1 3");
        due(tape(), 1990614824641L, 6, "1 2 1 3 1 5 1 13 1 31 1 389 "
                + "3 2 2044966593 463 6 0 6 43 1 2 11 2 1 2 3 1 2 4 1 2 5 1 2");
        // With nothing left of N - 1 one witness has to do for all, and up to 200 none does.
        due(tape(1, 4409), 1990614824641L, NO, "");
        due(tape(1, 53089), 386681163961L, NO, "");
        // 199 is the least witness, or 202 would be.
        wholeLineBy199();
        due(tape(), Checks.big("41507617498694680511898190748277001"), NO, "");
        // For the factor 2 of these 199 is the least witness, or 211 would be.
        Calls x = new Calls();
        Checks.set(x, 0, Checks.big("1764776057787897435838049365282152131892399452807228217241"));
        checks.due("prove by 199", x.prove(0), 32);
        checks.due("its kind", x.at(64), 3);
        checks.due("its factor 2", x.at(73) + " " + x.at(74) + " " + x.at(75), "0 3 199");
        due(tape(), Checks.big("710780645228369549316955266051189044999949759170276602801"), NO, "");
        // Witnesses of the number before are none of the next one's.
        x = due(tape(), 1090849, 3, "1 2 1 3 1 11 3 1 1090849 3 0 5 13 1 1 2 2 1 3");
        Checks.set(x, 0, 1088783);
        checks.due("prove the next one", x.prove(0), 6);
        checks.due("its line", tail(x, 13), "3 1 1088783 3 0 1 5 4 1 2 5 1 3");
    }

    private static void wholeLineBy199() {
        Calls x = new Calls();
        Checks.set(x, 0, Checks.big("156763653064837584072843399477213601"));
        checks.due("prove by 199", x.prove(0), 22);
        checks.due("its line", tail(x, 44 + 8),
                "2 4 458373537 -1259886977 2045262080 1978635 199 22 0 5 1 2 2 2 3 2 4 1 5 1 6 1 7 1 8 1 9 2 10 1 "
                        + "11 1 12 1 13 1 14 1 15 1 16 1 17 1 18 1 19 1 20 1 21 1");
    }

    private static void notPrime() {
        // Carmichael's, two of them with F F above N and no divisor up to 200.
        for (long n : new long[] {75361, 101101, 115921, 162401, 252601, 294409, 56052361, 10897931091179161L}) {
            due(tape(), n, NO, "");
        }
        // 2 would do but for a^(N - 1), for a line 2 and for a line 3.
        for (long n : new long[] {65541, 65553, 65555, 1027183, 1035287, 1041419}) {
            due(tape(), n, NO, "");
        }
        // Fermat's, for which 2 is no witness but 3 is one, and the like.
        for (int i : tape(32, 64, 128, 255)) {
            due(tape(), bit(i).add(BigInteger.ONE), NO, "");
        }
        for (int i : tape(16, 17, 64, 255)) {
            due(tape(1, 2), bit(i), NO, "");
        }
        due(tape(), Checks.LIMIT.subtract(BigInteger.ONE), NO, "");
        due(tape(), Checks.LIMIT.subtract(BigInteger.TWO), NO, "");
    }

    private static void badAndFaults() {
        Calls x = Checks.withTape(1, 2, 1, 4);
        for (int none : tape(-1, 8, Integer.MIN_VALUE, Integer.MAX_VALUE)) {
            checks.due("prove(" + none + ")", x.prove(none), PrimeCertificates.BAD);
            checks.due("place()", x.place(), NO);
        }
        checks.due("prove(0) of 0", x.prove(0), -103);
        checks.due("place()", x.place(), 3);
        x.put(0, 0, 2);
        checks.due("prove(0) of what a line tells", x.prove(0), -103);
        checks.due("tape", Checks.tape(x), "1 2 1 4");
        for (int none : tape(-1, 8)) {
            checks.due("prove(" + none + ")", x.prove(none), PrimeCertificates.BAD);
            checks.due("place() stays", x.place(), 3);
        }
        x.cut(2);
        checks.due("prove(0)", x.prove(0), 0);
        checks.due("prove(8)", x.prove(8), PrimeCertificates.BAD);
        checks.due("tell(0, 1) stays", x.tell(0, 1), true);
        checks.due("place() stays", x.place(), NO);
    }

    private static String tail(Calls x, int ints) {
        StringBuilder text = new StringBuilder();
        for (int i = x.length() - ints; i < x.length(); i++) {
            text.append(text.length() == 0 ? "" : " ").append(x.at(i));
        }
        return text.toString();
    }

    /** 2^255 - 19 from small primes up. */
    private static void largePrime() {
        Calls x = new Calls();
        String[] primes = {
            "65147", "57467", "132049", "3727", "1923133", "4153", "1723", "430751", "31757755568855353", "37853",
            "75707", "2437", "569003", "2773320623", "72106336199", "8574133", "1919519569386763",
            "75445702479781427272750846543864801",
            "74058212732561358302231226437062788676166966415465897661863160754340907",
            "57896044618658097711785492504343953926634992332820282019728792003956564819949",
        };
        int last = NO;
        for (String prime : primes) {
            Checks.set(x, 0, Checks.big(prime));
            last = x.prove(0);
            checks.due("prove " + prime + " answers a line", last >= 0, true);
        }
        checks.due("check()", x.check(), last + 1);
        checks.due("tell()", x.tell(last, 1), true);
        checks.due("compare()", x.compare(0, 1), 0);
        checks.due("its line", tail(x, 20), "2 8 -19 -1 -1 -1 -1 -1 -1 2147483647 2 4 2 2 3 1 0 1 36 1");
    }
}
