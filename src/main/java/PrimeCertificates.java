import java.util.Arrays;

/**
 * Large whole numbers, and certificates that some are prime: a maker that builds them from small
 * primes up, and a checker that takes just what proves it.
 *
 * <p>Every row that a call needs is made once, with the object: no call makes an object.
 */
public final class PrimeCertificates {
    public static final int BAD = -1;
    public static final int NO = -2;
    public static final int FULL = -3;

    private static final int DONE = 0;
    private static final int NO_REGISTER = 2;
    private static final int ABOVE_FAULTS = -100;

    private static final int REGISTERS = 8;
    private static final int WORDS = 8;
    private static final long LOW_WORD = 0xFFFFFFFFL;
    private static final long HIGHEST_BIT = 1L << 63;

    private static final int MOST_INTS = 4000;
    private static final int MOST_LINES = 200;
    private static final int MOST_FACTORS = 40;
    private static final int MOST_EXPONENT = 255;

    private static final int LAST_SMALL = 65535;
    private static final int LAST_TRIED = 1009;
    private static final int FIRST_WITNESS = 2;
    private static final int LAST_WITNESS = 200;

    private static final int SMALL_LINE = 1;
    private static final int WHOLE_LINE = 2;
    private static final int PART_LINE = 3;

    private final int[][] registers = new int[REGISTERS][WORDS];
    private final int[] answer = new int[WORDS];
    private final int[] remainder = new int[WORDS];
    private final Sums sums;
    private final Tape tape;
    private final Lines lines;
    private final Checker checker;
    private final Maker maker;

    public PrimeCertificates() {
        sums = new Sums();
        tape = new Tape();
        lines = new Lines();
        Trial trial = new Trial(sums);
        checker = new Checker(tape, lines, sums, trial);
        maker = new Maker(tape, lines, sums, trial);
    }

    public boolean put(int register, int i, int v) {
        if (!isRegister(register) || !isWord(i)) {
            return false;
        }
        registers[register][i] = v;
        return true;
    }

    public int get(int register, int i) {
        return isRegister(register) && isWord(i) ? registers[register][i] : 0;
    }

    public int add(int a, int b, int to) {
        if (!areRegisters(a, b, to)) {
            return BAD;
        }
        return Sums.sum(registers[a], registers[b], answer) ? keepAnswer(to) : FULL;
    }

    public int subtract(int a, int b, int to) {
        if (!areRegisters(a, b, to)) {
            return BAD;
        }
        return Sums.difference(registers[a], registers[b], answer) ? keepAnswer(to) : NO;
    }

    public int multiply(int a, int b, int to) {
        if (!areRegisters(a, b, to)) {
            return BAD;
        }
        return sums.product(registers[a], registers[b], answer) ? keepAnswer(to) : FULL;
    }

    public int divide(int a, int b, int to, int rest) {
        if (!areRegisters(a, b, to) || !isRegister(rest) || to == rest) {
            return BAD;
        }
        if (Sums.isZero(registers[b])) {
            return NO;
        }
        sums.quotient(registers[a], registers[b], answer, remainder);
        Sums.copy(remainder, registers[rest]);
        return keepAnswer(to);
    }

    public int power(int a, int b, int m, int to) {
        if (!areRegisters(a, b, to) || !isRegister(m)) {
            return BAD;
        }
        if (Sums.isZero(registers[m])) {
            return NO;
        }
        sums.powerModulo(registers[a], registers[b], registers[m], answer);
        return keepAnswer(to);
    }

    public int common(int a, int b, int to) {
        if (!areRegisters(a, b, to)) {
            return BAD;
        }
        sums.greatestDivisor(registers[a], registers[b], answer);
        return keepAnswer(to);
    }

    public int compare(int a, int b) {
        if (!isRegister(a) || !isRegister(b)) {
            return NO_REGISTER;
        }
        return Sums.order(registers[a], registers[b]);
    }

    public int say(int v) {
        if (tape.room() == 0) {
            return FULL;
        }
        tape.append(v);
        return tape.size;
    }

    public boolean cut(int n) {
        if (n < 0 || n > tape.size) {
            return false;
        }
        tape.size = n;
        lines.forgetBehind(n);
        return true;
    }

    public int length() {
        return tape.size;
    }

    public int at(int i) {
        return i >= 0 && i < tape.size ? tape.ints[i] : 0;
    }

    public int check() {
        int fault = checker.findFault();
        return fault == Checker.NO_FAULT ? lines.count : ABOVE_FAULTS - fault;
    }

    public int place() {
        return checker.faultPlace;
    }

    public boolean tell(int l, int to) {
        if (l < 0 || l >= lines.told || !isRegister(to)) {
            return false;
        }
        Sums.copy(lines.numbers[l], registers[to]);
        return true;
    }

    public int prove(int register) {
        if (!isRegister(register)) {
            return BAD;
        }
        int fault = checker.findFault();
        if (fault != Checker.NO_FAULT) {
            return ABOVE_FAULTS - fault;
        }
        int line = maker.lineFor(registers[register]);
        lines.told = lines.count;
        return line;
    }

    private static boolean isRegister(int register) {
        return register >= 0 && register < REGISTERS;
    }

    private static boolean isWord(int i) {
        return i >= 0 && i < WORDS;
    }

    private static boolean areRegisters(int a, int b, int to) {
        return isRegister(a) && isRegister(b) && isRegister(to);
    }

    private int keepAnswer(int to) {
        Sums.copy(answer, registers[to]);
        return DONE;
    }

    /**
     * Arithmetic on rows of eight words, the lowest first. A row that takes an answer may also be
     * one of those that are asked about.
     */
    private static final class Sums {
        // Euclid's way takes less than 400 steps on numbers of 256 bits.
        private static final int MANY_STEPS = 1000;

        // A product of two numbers, and a word for the bits that shifting it pushes out.
        private final int[] wide = new int[2 * WORDS + 1];
        private final int[] goes = new int[2 * WORDS + 1];
        // Shifted up until its highest bit is set: only then is a guessed word of a quotient close.
        private final int[] divisor = new int[WORDS];
        private int divisorWords = 0;
        private int shift = 0;

        private final int[] residue = new int[WORDS];
        private final int[] power = new int[WORDS];
        private final int[] larger = new int[WORDS];
        private final int[] smaller = new int[WORDS];

        static int usedWords(int[] x) {
            int words = x.length;
            while (words > 0 && x[words - 1] == 0) {
                words--;
            }
            return words;
        }

        static boolean isZero(int[] x) {
            return usedWords(x) == 0;
        }

        static boolean isOne(int[] x) {
            return x[0] == 1 && usedWords(x) == 1;
        }

        static boolean isAtMost(int[] x, int limit) {
            return usedWords(x) <= 1 && (x[0] & LOW_WORD) <= limit;
        }

        static void copy(int[] from, int[] to) {
            System.arraycopy(from, 0, to, 0, WORDS);
        }

        static void setSmall(int[] x, int v) {
            Arrays.fill(x, 0);
            x[0] = v;
        }

        static int order(int[] x, int[] y) {
            for (int i = WORDS - 1; i >= 0; i--) {
                if (x[i] != y[i]) {
                    return (x[i] & LOW_WORD) < (y[i] & LOW_WORD) ? -1 : 1;
                }
            }
            return 0;
        }

        /** False when the sum has more than eight words. */
        static boolean sum(int[] x, int[] y, int[] to) {
            long carry = 0;
            for (int i = 0; i < WORDS; i++) {
                carry += (x[i] & LOW_WORD) + (y[i] & LOW_WORD);
                to[i] = (int) carry;
                carry >>>= 32;
            }
            return carry == 0;
        }

        /** False when y is above x. */
        static boolean difference(int[] x, int[] y, int[] to) {
            long carry = 0;
            for (int i = 0; i < WORDS; i++) {
                carry += (x[i] & LOW_WORD) - (y[i] & LOW_WORD);
                to[i] = (int) carry;
                carry >>= 32;
            }
            return carry == 0;
        }

        /** False, and nothing in to, when the product has more than eight words. */
        boolean product(int[] x, int[] y, int[] to) {
            setWideToProduct(x, y);
            if (usedWords(wide) > WORDS) {
                return false;
            }
            copy(wide, to);
            return true;
        }

        boolean squareIsAbove(int[] x, int[] limit) {
            setWideToProduct(x, x);
            return usedWords(wide) > WORDS || order(wide, limit) > 0;
        }

        /** y is not 0. */
        void quotient(int[] x, int[] y, int[] to, int[] rest) {
            setDivisor(y);
            setWide(x);
            reduceWide();
            copy(goes, to);
            copy(wide, rest);
        }

        /** y is not 0. */
        boolean divides(int[] y, int[] x) {
            setDivisor(y);
            setWide(x);
            reduceWide();
            return isZero(wide);
        }

        /** modulus is not 0. */
        void powerModulo(int[] base, int[] exponent, int[] modulus, int[] to) {
            setDivisor(modulus);
            setWide(base);
            reduceWide();
            copy(wide, residue);
            // Modulo 1 even a power that is never multiplied has to be 0.
            setSmall(wide, 1);
            reduceWide();
            copy(wide, power);
            for (int bit = 32 * usedWords(exponent) - 1; bit >= 0; bit--) {
                setWideToProduct(power, power);
                reduceWide();
                copy(wide, power);
                if ((exponent[bit >> 5] >>> (bit & 31) & 1) == 1) {
                    setWideToProduct(power, residue);
                    reduceWide();
                    copy(wide, power);
                }
            }
            copy(power, to);
        }

        void greatestDivisor(int[] x, int[] y, int[] to) {
            copy(x, larger);
            copy(y, smaller);
            for (int step = 0; step < MANY_STEPS && !isZero(smaller); step++) {
                setDivisor(smaller);
                setWide(larger);
                reduceWide();
                copy(smaller, larger);
                copy(wide, smaller);
            }
            copy(larger, to);
        }

        private void setWide(int[] x) {
            Arrays.fill(wide, 0);
            copy(x, wide);
        }

        private void setWideToProduct(int[] x, int[] y) {
            int xWords = usedWords(x);
            int yWords = usedWords(y);
            Arrays.fill(wide, 0);
            for (int i = 0; i < xWords; i++) {
                long word = x[i] & LOW_WORD;
                long carry = 0;
                for (int j = 0; j < yWords; j++) {
                    carry += word * (y[j] & LOW_WORD) + (wide[i + j] & LOW_WORD);
                    wide[i + j] = (int) carry;
                    carry >>>= 32;
                }
                wide[i + yWords] = (int) carry;
            }
        }

        private void setDivisor(int[] y) {
            divisorWords = usedWords(y);
            shift = divisorWords == 0 ? 0 : leadingZeros(y[divisorWords - 1]);
            shiftUp(y, divisorWords, divisor);
        }

        /** word is not 0. */
        private static int leadingZeros(int word) {
            int zeros = 0;
            while (zeros < 31 && word << zeros > 0) {
                zeros++;
            }
            return zeros;
        }

        /** Leaves in wide what remains of it, and in goes how often the divisor went into it. */
        private void reduceWide() {
            Arrays.fill(goes, 0);
            int words = usedWords(wide);
            if (divisorWords == 0 || words < divisorWords) {
                return;
            }
            shiftUp(wide, words, wide);
            for (int j = words - divisorWords; j >= 0; j--) {
                long times = guessTimes(j);
                if (!takeAway(times, j)) {
                    giveBack(j);
                    times--;
                }
                goes[j] = (int) times;
            }
            shiftWideDown();
        }

        private void shiftUp(int[] from, int words, int[] to) {
            long carry = 0;
            for (int i = 0; i < words; i++) {
                carry |= (from[i] & LOW_WORD) << shift;
                to[i] = (int) carry;
                carry >>>= 32;
            }
            if (words < to.length) {
                to[words] = (int) carry;
            }
        }

        private void shiftWideDown() {
            long above = 0;
            for (int i = divisorWords - 1; i >= 0; i--) {
                long word = wide[i] & LOW_WORD;
                wide[i] = (int) ((above << 32 | word) >>> shift);
                above = word;
            }
        }

        /** How often the divisor goes into wide from word j on, or once more. */
        private long guessTimes(int j) {
            int top = j + divisorWords;
            boolean hasSecond = divisorWords > 1;
            long first = divisor[divisorWords - 1] & LOW_WORD;
            long second = hasSecond ? divisor[divisorWords - 2] & LOW_WORD : 0;
            long third = hasSecond ? wide[top - 2] & LOW_WORD : 0;
            long head = (wide[top] & LOW_WORD) << 32 | (wide[top - 1] & LOW_WORD);
            // Never so behind setDivisor, but no divisor is to go unlooked at.
            if (first == 0) {
                return 0;
            }
            // By half of head: with its highest bit set all of it would be taken as below 0.
            long times = (head >>> 1) / first << 1;
            long rest = head - times * first;
            if (rest >= first) {
                times++;
                rest -= first;
            }
            // The first word's highest bit is set, so after two steps rest has outgrown a word.
            for (int step = 0; step < 2 && rest <= LOW_WORD; step++) {
                if (times <= LOW_WORD && !isAbove(times * second, rest << 32 | third)) {
                    break;
                }
                times--;
                rest += first;
            }
            return times;
        }

        /** Of 64 bits without a sign. */
        private static boolean isAbove(long x, long y) {
            return (x ^ HIGHEST_BIT) > (y ^ HIGHEST_BIT);
        }

        /** False when that was too much: the divisor has to be given back once. */
        private boolean takeAway(long times, int j) {
            long carry = 0;
            for (int i = 0; i < divisorWords; i++) {
                long product = times * (divisor[i] & LOW_WORD) + carry;
                long word = (wide[i + j] & LOW_WORD) - (product & LOW_WORD);
                wide[i + j] = (int) word;
                carry = (product >>> 32) + (word < 0 ? 1 : 0);
            }
            long highest = (wide[j + divisorWords] & LOW_WORD) - carry;
            wide[j + divisorWords] = (int) highest;
            return highest >= 0;
        }

        private void giveBack(int j) {
            long carry = 0;
            for (int i = 0; i < divisorWords; i++) {
                carry += (wide[i + j] & LOW_WORD) + (divisor[i] & LOW_WORD);
                wide[i + j] = (int) carry;
                carry >>>= 32;
            }
            wide[j + divisorWords] += (int) carry;
        }
    }

    private static final class Tape {
        final int[] ints = new int[MOST_INTS];
        int size = 0;

        int room() {
            return MOST_INTS - size;
        }

        void append(int v) {
            if (size < MOST_INTS) {
                ints[size] = v;
                size++;
            }
        }
    }

    /**
     * The first count lines of the tape are known to be right. They stay so while the tape keeps
     * them, since a line leans on earlier ones alone: no check has to read them again.
     */
    private static final class Lines {
        final int[][] numbers = new int[MOST_LINES][WORDS];
        private final int[] ends = new int[MOST_LINES];
        int count = 0;
        // Apart from count, as what is told outlives a cut of the tape.
        int told = 0;

        int end() {
            return count == 0 ? 0 : ends[count - 1];
        }

        /** The number of the line stands in numbers[count] already. */
        void keepNext(int end) {
            if (count < MOST_LINES) {
                ends[count] = end;
                count++;
            }
        }

        void forgetBehind(int size) {
            while (count > 0 && ends[count - 1] > size) {
                count--;
            }
        }

        /** The first line that tells a number; NO when none does. */
        int lineOf(int[] number) {
            for (int line = 0; line < count; line++) {
                if (Sums.order(numbers[line], number) == 0) {
                    return line;
                }
            }
            return NO;
        }
    }

    /** The factors of one line, in the order in which they stand on it. */
    private static final class Factors {
        final int[] lines = new int[MOST_FACTORS];
        final int[] exponents = new int[MOST_FACTORS];
        final int[] witnesses = new int[MOST_FACTORS];
        int count = 0;
    }

    /** One number, from 3 on, and what witnesses say of it. */
    private static final class Trial {
        private final Sums sums;
        final int[] number = new int[WORDS];
        final int[] oneLess = new int[WORDS];
        private final int[] one = new int[WORDS];
        private final int[] base = new int[WORDS];
        private final int[] exponent = new int[WORDS];
        private final int[] power = new int[WORDS];

        Trial(Sums sums) {
            this.sums = sums;
            one[0] = 1;
        }

        void begin(int[] ofNumber) {
            Sums.copy(ofNumber, number);
            Sums.difference(number, one, oneLess);
        }

        /** a^(N - 1) is 1. */
        boolean closes(int a) {
            base[0] = a;
            sums.powerModulo(base, oneLess, number, power);
            return Sums.isOne(power);
        }

        /** a^((N - 1) / p) is not 1. */
        boolean parts(int a, int[] p) {
            base[0] = a;
            sums.quotient(oneLess, p, exponent, power);
            sums.powerModulo(base, exponent, number, power);
            return !Sums.isOne(power);
        }

        /** a^((N - 1) / p) - 1 and N have no divisor above 1 in common; a^(N - 1) is 1. */
        boolean partsEverywhere(int a, int[] p) {
            base[0] = a;
            sums.quotient(oneLess, p, exponent, power);
            sums.powerModulo(base, exponent, number, power);
            // Not 0, since a higher power of a is 1.
            Sums.difference(power, one, power);
            sums.greatestDivisor(power, number, power);
            return Sums.isOne(power);
        }
    }

    /** Reads the lines of the tape and finds the first fault. */
    private static final class Checker {
        static final int NO_FAULT = 0;
        private static final int TAPE_ENDS = 1;
        private static final int STRANGE_INT = 2;
        private static final int NOT_SMALL_PRIME = 3;
        private static final int NUMBER_TOO_SMALL = 4;
        private static final int NOT_GOING_UP = 5;
        private static final int WRONG_PRODUCT = 6;
        private static final int PRODUCT_TOO_SMALL = 7;
        private static final int STRANGE_WITNESS = 8;
        private static final int NOT_CLOSING = 9;
        private static final int NOT_PARTING = 10;

        private static final int LEAST_NUMBER = 3;

        private final Tape tape;
        private final Lines lines;
        private final Sums sums;
        private final Trial trial;
        private final Factors factors = new Factors();
        private final int[] product = new int[WORDS];

        private int next = 0;
        private int taken = 0;
        private int kind = 0;
        private int root = 0;
        private int countPlace = 0;
        private int fault = NO_FAULT;
        int faultPlace = NO;

        Checker(Tape tape, Lines lines, Sums sums, Trial trial) {
            this.tape = tape;
            this.lines = lines;
            this.sums = sums;
            this.trial = trial;
        }

        int findFault() {
            fault = NO_FAULT;
            faultPlace = NO;
            next = lines.end();
            for (int line = lines.count; line < MOST_LINES && fault == NO_FAULT && next < tape.size; line++) {
                boolean right = readLine(line);
                if (right && kind != SMALL_LINE) {
                    trial.begin(lines.numbers[line]);
                    right = productHolds() && (kind == WHOLE_LINE ? rootHolds() : witnessesHold());
                }
                if (right) {
                    lines.keepNext(next);
                }
            }
            if (fault == NO_FAULT && next < tape.size) {
                refuse(STRANGE_INT, next);
            }
            lines.told = fault == NO_FAULT ? lines.count : 0;
            return fault;
        }

        /** Always false, so that a reader can end with it. */
        private boolean refuse(int foundFault, int place) {
            fault = foundFault;
            faultPlace = place;
            return false;
        }

        private boolean refuseTaken(int foundFault) {
            return refuse(foundFault, next - 1);
        }

        private boolean take() {
            if (next >= tape.size) {
                return refuse(TAPE_ENDS, tape.size);
            }
            taken = tape.ints[next];
            next++;
            return true;
        }

        private boolean readLine(int line) {
            if (!take()) {
                return false;
            }
            kind = taken;
            int[] number = lines.numbers[line];
            switch (kind) {
                case SMALL_LINE:
                    return readSmallPrime(number);
                case WHOLE_LINE:
                    return readNumber(number) && readRoot(number) && readFactors(line);
                case PART_LINE:
                    return readNumber(number) && readFactors(line);
                default:
                    return refuseTaken(STRANGE_INT);
            }
        }

        private boolean readSmallPrime(int[] number) {
            if (!take()) {
                return false;
            }
            if (taken > LAST_SMALL || !isSmallPrime(taken)) {
                return refuseTaken(NOT_SMALL_PRIME);
            }
            Sums.setSmall(number, taken);
            return true;
        }

        private boolean readNumber(int[] number) {
            if (!take()) {
                return false;
            }
            int wordsPlace = next - 1;
            int words = taken;
            if (words < 1 || words > WORDS) {
                return refuseTaken(STRANGE_INT);
            }
            Arrays.fill(number, 0);
            for (int i = 0; i < words; i++) {
                if (!take()) {
                    return false;
                }
                number[i] = taken;
            }
            if (taken == 0) {
                return refuseTaken(STRANGE_INT);
            }
            return !Sums.isAtMost(number, LEAST_NUMBER - 1) || refuse(NUMBER_TOO_SMALL, wordsPlace);
        }

        private boolean readRoot(int[] number) {
            if (!take()) {
                return false;
            }
            root = taken;
            return isWitness(root, number) || refuseTaken(STRANGE_WITNESS);
        }

        private boolean readFactors(int line) {
            if (!take()) {
                return false;
            }
            if (taken < 1 || taken > MOST_FACTORS) {
                return refuseTaken(STRANGE_INT);
            }
            countPlace = next - 1;
            factors.count = taken;
            for (int f = 0; f < factors.count; f++) {
                if (!readFactorLine(f, line) || !readExponent(f)) {
                    return false;
                }
                if (kind == PART_LINE) {
                    if (!take()) {
                        return false;
                    }
                    factors.witnesses[f] = taken;
                }
            }
            return true;
        }

        private boolean readFactorLine(int f, int line) {
            if (!take()) {
                return false;
            }
            if (taken < 0 || taken >= line) {
                return refuseTaken(STRANGE_INT);
            }
            factors.lines[f] = taken;
            return f == 0 || Sums.order(factorNumber(f - 1), factorNumber(f)) < 0 || refuseTaken(NOT_GOING_UP);
        }

        private boolean readExponent(int f) {
            if (!take()) {
                return false;
            }
            factors.exponents[f] = taken;
            return taken >= 1 && taken <= MOST_EXPONENT || refuseTaken(STRANGE_INT);
        }

        private static boolean isWitness(int a, int[] number) {
            return a >= FIRST_WITNESS && !Sums.isAtMost(number, a);
        }

        private int[] factorNumber(int f) {
            return lines.numbers[factors.lines[f]];
        }

        private int factorPlace(int f) {
            return countPlace + 1 + f * (kind == PART_LINE ? 3 : 2);
        }

        private boolean productHolds() {
            if (!multiplyFactors()) {
                return refuse(WRONG_PRODUCT, countPlace);
            }
            if (kind == WHOLE_LINE) {
                return Sums.order(product, trial.oneLess) == 0 || refuse(WRONG_PRODUCT, countPlace);
            }
            if (!sums.divides(product, trial.oneLess)) {
                return refuse(WRONG_PRODUCT, countPlace);
            }
            return sums.squareIsAbove(product, trial.number) || refuse(PRODUCT_TOO_SMALL, countPlace);
        }

        /** False when the product is no number, and so above all numbers. */
        private boolean multiplyFactors() {
            Sums.setSmall(product, 1);
            for (int f = 0; f < factors.count; f++) {
                for (int e = 0; e < factors.exponents[f]; e++) {
                    if (!sums.product(product, factorNumber(f), product)) {
                        return false;
                    }
                }
            }
            return true;
        }

        private boolean rootHolds() {
            if (!trial.closes(root)) {
                return refuse(NOT_CLOSING, countPlace - 1);
            }
            for (int f = 0; f < factors.count; f++) {
                if (!trial.parts(root, factorNumber(f))) {
                    return refuse(NOT_PARTING, factorPlace(f));
                }
            }
            return true;
        }

        private boolean witnessesHold() {
            for (int f = 0; f < factors.count; f++) {
                if (!isWitness(factors.witnesses[f], trial.number)) {
                    return refuse(STRANGE_WITNESS, factorPlace(f) + 2);
                }
            }
            for (int f = 0; f < factors.count; f++) {
                int a = factors.witnesses[f];
                if (!trial.closes(a)) {
                    return refuse(NOT_CLOSING, factorPlace(f) + 2);
                }
                if (!trial.partsEverywhere(a, factorNumber(f))) {
                    return refuse(NOT_PARTING, factorPlace(f));
                }
            }
            return true;
        }
    }

    /** Adds the lines that prove a number to a certificate that is right. */
    private static final class Maker {
        private final Tape tape;
        private final Lines lines;
        private final Sums sums;
        private final Trial trial;
        private final Factors factors = new Factors();
        private final int[] left = new int[WORDS];
        private final int[] share = new int[WORDS];
        private final int[] rest = new int[WORDS];
        private final int[] small = new int[WORDS];
        // Lines to come, their numbers kept behind those of the lines that are there.
        private int newLines = 0;
        private int root = 0;

        Maker(Tape tape, Lines lines, Sums sums, Trial trial) {
            this.tape = tape;
            this.lines = lines;
            this.sums = sums;
            this.trial = trial;
        }

        /** NO, and nothing added, when it can't. */
        int lineFor(int[] number) {
            int line = lines.lineOf(number);
            if (line != NO) {
                return line;
            }
            newLines = 0;
            if (Sums.isAtMost(number, LAST_SMALL)) {
                return isSmallPrime(number[0]) && planSmallLine(number) && hasRoom(0) ? writeSmallLines() : NO;
            }
            trial.begin(number);
            if (!findFactors()) {
                return NO;
            }
            boolean whole = Sums.isOne(left);
            if (!hasRoom(lastLineInts(whole)) || !whole && !factorsSuffice()) {
                return NO;
            }
            if (!(whole ? findRoot() : findWitnesses())) {
                return NO;
            }
            writeSmallLines();
            return writeLastLine(whole);
        }

        private boolean findFactors() {
            factors.count = 0;
            Sums.copy(trial.oneLess, left);
            for (int p = 2; p <= LAST_TRIED; p++) {
                if (isSmallPrime(p)) {
                    Sums.setSmall(small, p);
                    int exponent = divideOut(small);
                    if (exponent > 0 && !insertPrime(exponent)) {
                        return false;
                    }
                }
            }
            for (int line = 0; line < lines.count; line++) {
                int[] number = lines.numbers[line];
                int exponent = Sums.isAtMost(number, LAST_TRIED) ? 0 : divideOut(number);
                if (exponent > 0 && !insertFactor(line, exponent)) {
                    return false;
                }
            }
            return true;
        }

        /** False when the prime in small has no room for its line, or among the factors. */
        private boolean insertPrime(int exponent) {
            int line = lines.lineOf(small);
            if (line != NO) {
                return insertFactor(line, exponent);
            }
            return planSmallLine(small) && insertFactor(lines.count + newLines - 1, exponent);
        }

        /** How often p goes into what is left, which it is taken out of. */
        private int divideOut(int[] p) {
            int exponent = 0;
            boolean divided = true;
            while (divided && exponent < MOST_EXPONENT) {
                sums.quotient(left, p, share, rest);
                divided = Sums.isZero(rest);
                if (divided) {
                    Sums.copy(share, left);
                    exponent++;
                }
            }
            return exponent;
        }

        /** Lines come in any order, but the factors' numbers have to go up. */
        private boolean insertFactor(int line, int exponent) {
            if (factors.count >= MOST_FACTORS) {
                return false;
            }
            int f = factors.count;
            while (f > 0 && Sums.order(factorNumber(f - 1), lines.numbers[line]) > 0) {
                factors.lines[f] = factors.lines[f - 1];
                factors.exponents[f] = factors.exponents[f - 1];
                f--;
            }
            factors.lines[f] = line;
            factors.exponents[f] = exponent;
            factors.count++;
            return true;
        }

        private int[] factorNumber(int f) {
            return lines.numbers[factors.lines[f]];
        }

        private boolean planSmallLine(int[] p) {
            if (lines.count + newLines >= MOST_LINES) {
                return false;
            }
            Sums.copy(p, lines.numbers[lines.count + newLines]);
            newLines++;
            return true;
        }

        /** Room for the small lines that are planned, and for a last one when it has ints. */
        private boolean hasRoom(int lastInts) {
            int lastLines = lastInts == 0 ? 0 : 1;
            return lines.count + newLines + lastLines <= MOST_LINES && 2 * newLines + lastInts <= tape.room();
        }

        private int lastLineInts(boolean whole) {
            int words = Sums.usedWords(trial.number);
            return whole ? 4 + words + 2 * factors.count : 3 + words + 3 * factors.count;
        }

        private boolean factorsSuffice() {
            sums.quotient(trial.oneLess, left, share, rest);
            return sums.squareIsAbove(share, trial.number);
        }

        private boolean findRoot() {
            for (int a = FIRST_WITNESS; a <= LAST_WITNESS; a++) {
                int parted = 0;
                while (parted < factors.count && trial.parts(a, factorNumber(parted))) {
                    parted++;
                }
                if (parted == factors.count) {
                    root = a;
                    // If not, then by Fermat the number is not prime, and no other a is right either.
                    return trial.closes(a);
                }
            }
            return false;
        }

        private boolean findWitnesses() {
            int closing = FIRST_WITNESS - 1;
            for (int f = 0; f < factors.count; f++) {
                factors.witnesses[f] = 0;
                for (int a = FIRST_WITNESS; a <= LAST_WITNESS && factors.witnesses[f] == 0; a++) {
                    // As in findRoot; looked at once for each a, since it is the same for all factors.
                    if (a > closing && !trial.closes(a)) {
                        return false;
                    }
                    closing = Math.max(closing, a);
                    if (trial.partsEverywhere(a, factorNumber(f))) {
                        factors.witnesses[f] = a;
                    }
                }
                if (factors.witnesses[f] == 0) {
                    return false;
                }
            }
            return true;
        }

        private int writeSmallLines() {
            for (int i = 0; i < newLines; i++) {
                tape.append(SMALL_LINE);
                tape.append(lines.numbers[lines.count][0]);
                lines.keepNext(tape.size);
            }
            return lines.count - 1;
        }

        private int writeLastLine(boolean whole) {
            Sums.copy(trial.number, lines.numbers[lines.count]);
            int words = Sums.usedWords(trial.number);
            tape.append(whole ? WHOLE_LINE : PART_LINE);
            tape.append(words);
            for (int i = 0; i < words; i++) {
                tape.append(trial.number[i]);
            }
            if (whole) {
                tape.append(root);
            }
            tape.append(factors.count);
            for (int f = 0; f < factors.count; f++) {
                tape.append(factors.lines[f]);
                tape.append(factors.exponents[f]);
                if (!whole) {
                    tape.append(factors.witnesses[f]);
                }
            }
            lines.keepNext(tape.size);
            return lines.count - 1;
        }
    }

    /** p is at most 65535. */
    private static boolean isSmallPrime(int p) {
        for (int d = 2; d < p && d * d <= p; d++) {
            if (p % d == 0) {
                return false;
            }
        }
        return p >= 2;
    }
}
