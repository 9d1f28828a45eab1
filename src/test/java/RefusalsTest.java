import java.util.function.Function;

/**
 * What calls leave alone: a refused call leaves registers, tape, place() and tell() as they were,
 * and a call that is not refused changes no more than the document says.
 */
public final class RefusalsTest {
    private static final int BAD = PrimeCertificates.BAD;
    private static final int NO = PrimeCertificates.NO;
    private static final int FULL = PrimeCertificates.FULL;

    private static final int MOST = 0;
    private static final int ONE = 1;
    private static final int ZERO = 2;
    private static final int HALF = 3;
    private static final int FIVE = 4;
    private static final int OTHER = 5;
    private static final int ANOTHER = 6;
    private static final int[] NONE = {-1, 8, Integer.MIN_VALUE, Integer.MAX_VALUE};

    private static final int[] RIGHT_LINES = {1, 2, 1, 3, 2, 1, 7, 3, 2, 0, 1, 1, 1};
    private static final int LENGTH = RIGHT_LINES.length + 2;

    private static final String TOLD = "place -2 tells 2 3 7";
    private static final String FAULT = "place 14 tells";

    private static final Checks checks = new Checks("RefusalsTest");

    public static void main(String[] args) {
        scenes();
        wordsThatAreNone();
        sumsOfNoRegister();
        sumsThatAreNoNumber();
        tapeCalls();
        linesThatAreNone();
        proveOfNoRegister();
        faultsOfCheckAndProve();
        proveThatCannot();
        sumsLeaveTapeAndTold();
        tapeLeavesRegistersAndTold();
        checkLeavesRegistersAndTape();
        readingLeavesAll();
        checks.finish();
    }

    private static void registers(Calls x) {
        for (int i = 0; i < 8; i++) {
            x.put(MOST, i, -1);
        }
        x.put(ONE, 0, 1);
        x.put(HALF, 4, 1);
        x.put(FIVE, 0, 5);
        x.put(OTHER, 0, 1234567);
        x.put(OTHER, 7, 7654321);
        x.put(ANOTHER, 3, -9);
        x.put(7, 7, 65521);
    }

    /** Three lines are told, and two ints have come behind them since. */
    private static void told(Calls x) {
        registers(x);
        Checks.say(x, RIGHT_LINES);
        x.check();
        Checks.say(x, 1, 9);
    }

    /** The latest check found a fault. */
    private static void atFault(Calls x) {
        told(x);
        x.check();
    }

    private static void scenes() {
        checks.due("told", Picture.told(RefusalsTest::told), TOLD);
        checks.due("told", Picture.told(RefusalsTest::atFault), FAULT);
        checks.due("length()", Picture.after(RefusalsTest::told).length(), LENGTH);
    }

    private static void refused(String call, Object answer, Function<Calls, Object> calls) {
        refused(call + " when told", answer, calls, RefusalsTest::told);
        refused(call + " at fault", answer, calls, RefusalsTest::atFault);
    }

    private static void refused(String call, Object answer, Function<Calls, Object> calls, Picture.Run scene) {
        checks.due(call, calls.apply(Picture.after(scene)), answer);
        Picture.Run scenePlusCall = x -> {
            scene.on(x);
            calls.apply(x);
        };
        checks.due("all behind " + call, Picture.of(scenePlusCall), Picture.of(scene));
    }

    private static void wordsThatAreNone() {
        for (int none : NONE) {
            checks.about("2: false when there is no such register or word (0 .. 7)");
            refused("put(" + none + ", 0, 9)", false, x -> x.put(none, 0, 9));
            refused("put(" + none + ", 7, 9)", false, x -> x.put(none, 7, 9));
            refused("put(0, " + none + ", 9)", false, x -> x.put(0, none, 9));
            refused("put(7, " + none + ", 9)", false, x -> x.put(7, none, 9));
            refused("put(none, none, 9)", false, x -> x.put(none, none, 9));
            checks.about("3: 0 when there is none");
            refused("get(" + none + ", 0)", 0, x -> x.get(none, 0));
            refused("get(0, " + none + ")", 0, x -> x.get(0, none));
            refused("get(7, " + none + ")", 0, x -> x.get(7, none));
        }
    }

    /** BAD goes ahead of FULL and NO. */
    private static void sumsOfNoRegister() {
        for (int none : NONE) {
            checks.about("4: BAD when one of these is no register");
            refused("add(none, MOST, OTHER)", BAD, x -> x.add(none, MOST, OTHER));
            refused("add(MOST, none, OTHER)", BAD, x -> x.add(MOST, none, OTHER));
            refused("add(MOST, MOST, none)", BAD, x -> x.add(MOST, MOST, none));
            refused("add(ONE, FIVE, none)", BAD, x -> x.add(ONE, FIVE, none));
            checks.about("5: BAD");
            refused("subtract(none, ONE, OTHER)", BAD, x -> x.subtract(none, ONE, OTHER));
            refused("subtract(ZERO, none, OTHER)", BAD, x -> x.subtract(ZERO, none, OTHER));
            refused("subtract(ZERO, ONE, none)", BAD, x -> x.subtract(ZERO, ONE, none));
            refused("subtract(FIVE, ONE, none)", BAD, x -> x.subtract(FIVE, ONE, none));
            checks.about("6: BAD");
            refused("multiply(none, MOST, OTHER)", BAD, x -> x.multiply(none, MOST, OTHER));
            refused("multiply(MOST, none, OTHER)", BAD, x -> x.multiply(MOST, none, OTHER));
            refused("multiply(MOST, MOST, none)", BAD, x -> x.multiply(MOST, MOST, none));
            refused("multiply(ONE, FIVE, none)", BAD, x -> x.multiply(ONE, FIVE, none));
            checks.about("7: BAD");
            refused("divide(none, ZERO, OTHER, ANOTHER)", BAD, x -> x.divide(none, ZERO, OTHER, ANOTHER));
            refused("divide(MOST, none, OTHER, ANOTHER)", BAD, x -> x.divide(MOST, none, OTHER, ANOTHER));
            refused("divide(MOST, ZERO, none, ANOTHER)", BAD, x -> x.divide(MOST, ZERO, none, ANOTHER));
            refused("divide(MOST, ZERO, OTHER, none)", BAD, x -> x.divide(MOST, ZERO, OTHER, none));
            refused("divide(MOST, FIVE, none, ANOTHER)", BAD, x -> x.divide(MOST, FIVE, none, ANOTHER));
            refused("divide(MOST, FIVE, OTHER, none)", BAD, x -> x.divide(MOST, FIVE, OTHER, none));
            refused("divide(MOST, FIVE, none, none)", BAD, x -> x.divide(MOST, FIVE, none, none));
            checks.about("8: BAD");
            refused("power(none, FIVE, ZERO, OTHER)", BAD, x -> x.power(none, FIVE, ZERO, OTHER));
            refused("power(FIVE, none, ZERO, OTHER)", BAD, x -> x.power(FIVE, none, ZERO, OTHER));
            refused("power(FIVE, FIVE, none, OTHER)", BAD, x -> x.power(FIVE, FIVE, none, OTHER));
            refused("power(FIVE, FIVE, ZERO, none)", BAD, x -> x.power(FIVE, FIVE, ZERO, none));
            refused("power(FIVE, FIVE, HALF, none)", BAD, x -> x.power(FIVE, FIVE, HALF, none));
            checks.about("9: BAD");
            refused("common(none, FIVE, OTHER)", BAD, x -> x.common(none, FIVE, OTHER));
            refused("common(FIVE, none, OTHER)", BAD, x -> x.common(FIVE, none, OTHER));
            refused("common(FIVE, MOST, none)", BAD, x -> x.common(FIVE, MOST, none));
            checks.about("10: 2 when one is no register");
            refused("compare(none, ZERO)", 2, x -> x.compare(none, ZERO));
            refused("compare(ZERO, none)", 2, x -> x.compare(ZERO, none));
            refused("compare(none, none)", 2, x -> x.compare(none, none));
        }
    }

    private static void sumsThatAreNoNumber() {
        checks.about("4: FULL when that is no NUMBER (nothing changes then)");
        refused("add(MOST, ONE, OTHER)", FULL, x -> x.add(MOST, ONE, OTHER));
        refused("add(ONE, MOST, ONE)", FULL, x -> x.add(ONE, MOST, ONE));
        refused("add(MOST, MOST, MOST)", FULL, x -> x.add(MOST, MOST, MOST));
        checks.about("5: NO when that is below 0");
        refused("subtract(ZERO, ONE, OTHER)", NO, x -> x.subtract(ZERO, ONE, OTHER));
        refused("subtract(ZERO, MOST, MOST)", NO, x -> x.subtract(ZERO, MOST, MOST));
        refused("subtract(FIVE, HALF, FIVE)", NO, x -> x.subtract(FIVE, HALF, FIVE));
        checks.about("6: FULL");
        refused("multiply(HALF, HALF, OTHER)", FULL, x -> x.multiply(HALF, HALF, OTHER));
        refused("multiply(MOST, MOST, MOST)", FULL, x -> x.multiply(MOST, MOST, MOST));
        refused("multiply(FIVE, MOST, FIVE)", FULL, x -> x.multiply(FIVE, MOST, FIVE));
        checks.about("7: BAD also when to is rest");
        for (int r = 0; r < 8; r++) {
            int both = r;
            refused("divide(MOST, FIVE, r, r)", BAD, x -> x.divide(MOST, FIVE, both, both));
            refused("divide(MOST, ZERO, r, r)", BAD, x -> x.divide(MOST, ZERO, both, both));
        }
        checks.about("7: NO when b is 0");
        refused("divide(MOST, ZERO, OTHER, ANOTHER)", NO, x -> x.divide(MOST, ZERO, OTHER, ANOTHER));
        refused("divide(ZERO, ZERO, MOST, ZERO)", NO, x -> x.divide(ZERO, ZERO, MOST, ZERO));
        checks.about("8: NO when m is 0");
        refused("power(FIVE, FIVE, ZERO, OTHER)", NO, x -> x.power(FIVE, FIVE, ZERO, OTHER));
        refused("power(FIVE, ZERO, ZERO, FIVE)", NO, x -> x.power(FIVE, ZERO, ZERO, FIVE));
        refused("power(ZERO, ZERO, ZERO, MOST)", NO, x -> x.power(ZERO, ZERO, ZERO, MOST));
    }

    private static void tapeCalls() {
        for (int n : new int[] {-1, LENGTH + 1, 4000, 4001, Integer.MIN_VALUE, Integer.MAX_VALUE}) {
            checks.about("12: false when it has not so many, or n is below 0");
            refused("cut(" + n + ")", false, x -> x.cut(n));
        }
        for (int i : new int[] {-1, LENGTH, 3999, 4000, Integer.MIN_VALUE, Integer.MAX_VALUE}) {
            checks.about("14: 0 when there is none");
            refused("at(" + i + ")", 0, x -> x.at(i));
        }
    }

    private static void linesThatAreNone() {
        checks.about("17: false when there is no such line or register");
        for (int none : NONE) {
            refused("tell(0, " + none + ")", false, x -> x.tell(0, none));
            refused("tell(2, " + none + ")", false, x -> x.tell(2, none));
        }
        for (int l : new int[] {-1, 3, 4, 199, 200, Integer.MIN_VALUE, Integer.MAX_VALUE}) {
            refused("tell(" + l + ", 0)", false, x -> x.tell(l, 0));
        }
        checks.about("17: false when the latest one found a fault");
        for (int line = 0; line < 5; line++) {
            int l = line;
            refused("tell(" + l + ", 0) at fault", false, x -> x.tell(l, 0), RefusalsTest::atFault);
        }
    }

    private static void proveOfNoRegister() {
        checks.about("18: BAD, ahead of all, when there is no such register (place() and tell() stay then)");
        for (int none : NONE) {
            refused("prove(" + none + ")", BAD, x -> x.prove(none));
            refused("prove(" + none + ") of a new object", BAD, x -> x.prove(none), x -> { });
            Picture.Run right = x -> Checks.say(x, RIGHT_LINES);
            refused("prove(" + none + ") on a right tape", BAD, x -> x.prove(none), right);
        }
    }

    /** Registers and tape stay; only place() and tell() say of the fault. */
    private static void faultsOfCheckAndProve() {
        Picture.Run check = x -> {
            told(x);
            x.check();
        };
        Picture.Run prove = x -> {
            told(x);
            x.prove(FIVE);
        };
        checks.about("15: -100 - fault");
        checks.due("check()", Picture.after(RefusalsTest::told).check(), -103);
        checks.due("place and told", Picture.told(check), FAULT);
        checks.due("registers", Picture.registers(check), Picture.registers(RefusalsTest::told));
        checks.due("tape", Picture.tape(check), Picture.tape(RefusalsTest::told));
        checks.about("18: -100 - fault when the certificate is not right");
        checks.due("prove()", Picture.after(RefusalsTest::told).prove(FIVE), -103);
        checks.due("place and told", Picture.told(prove), FAULT);
        checks.due("registers", Picture.registers(prove), Picture.registers(RefusalsTest::told));
        checks.due("tape", Picture.tape(prove), Picture.tape(RefusalsTest::told));
        checks.due("prove() of what a line tells", Picture.after(x -> {
            told(x);
            x.put(FIVE, 0, 7);
        }).prove(FIVE), -103);
    }

    /** Nothing is added; as no fault was found, the lines are told that are there. */
    private static void proveThatCannot() {
        checks.about("18: NO when it can't: then nothing is added");
        Picture.Run right = x -> {
            atFault(x);
            x.cut(RIGHT_LINES.length);
        };
        for (int r : new int[] {MOST, ONE, ZERO, HALF, OTHER, ANOTHER, 7}) {
            Picture.Run prove = x -> {
                right.on(x);
                x.prove(r);
            };
            checks.due("prove(" + r + ")", Picture.after(right).prove(r), NO);
            checks.due("registers", Picture.registers(prove), Picture.registers(right));
            checks.due("tape", Picture.tape(prove), Picture.tape(right));
            checks.due("place and told", Picture.told(prove), TOLD);
        }
    }

    private static void sumsLeaveTapeAndTold() {
        checks.about("2 to 10: only registers change");
        for (Picture.Run scene : scenesToChange()) {
            Picture.Run sums = x -> {
                scene.on(x);
                x.put(ANOTHER, 1, 77);
                x.add(FIVE, ONE, OTHER);
                x.subtract(MOST, FIVE, OTHER);
                x.multiply(FIVE, FIVE, OTHER);
                x.divide(MOST, FIVE, OTHER, ANOTHER);
                x.power(FIVE, FIVE, HALF, OTHER);
                x.common(FIVE, MOST, OTHER);
                x.compare(FIVE, MOST);
            };
            checks.due("tape", Picture.tape(sums), Picture.tape(scene));
            checks.due("place and told", Picture.told(sums), Picture.told(scene));
        }
    }

    private static Picture.Run[] scenesToChange() {
        return new Picture.Run[] {RefusalsTest::told, RefusalsTest::atFault};
    }

    private static void tapeLeavesRegistersAndTold() {
        checks.about("17: What is told stays when the tape changes");
        for (Picture.Run scene : scenesToChange()) {
            for (int n : new int[] {LENGTH, LENGTH - 1, RIGHT_LINES.length, 3, 1, 0}) {
                Picture.Run changed = x -> {
                    scene.on(x);
                    x.cut(n);
                    Checks.say(x, 1, 11, 1, 13);
                };
                checks.due("registers", Picture.registers(changed), Picture.registers(scene));
                checks.due("place and told", Picture.told(changed), Picture.told(scene));
            }
        }
    }

    private static void checkLeavesRegistersAndTape() {
        checks.about("15: check() that finds no fault changes neither registers nor tape");
        Picture.Run right = x -> {
            registers(x);
            Checks.say(x, RIGHT_LINES);
        };
        Picture.Run checked = x -> {
            right.on(x);
            x.check();
        };
        checks.due("registers", Picture.registers(checked), Picture.registers(right));
        checks.due("tape", Picture.tape(checked), Picture.tape(right));
        checks.due("place and told", Picture.told(checked), TOLD);
        checks.about("17: tell() changes its register alone");
        Picture.Run tells = x -> {
            checked.on(x);
            x.put(OTHER, 0, 7);
            x.put(OTHER, 7, 0);
        };
        Picture.Run told = x -> {
            checked.on(x);
            x.tell(2, OTHER);
        };
        checks.due("all", Picture.of(told), Picture.of(tells));
        checks.about("18: prove() changes no register");
        Picture.Run proved = x -> {
            checked.on(x);
            x.prove(FIVE);
        };
        checks.due("registers", Picture.registers(proved), Picture.registers(checked));
        checks.due("tape", Picture.tape(proved), Picture.tape(checked) + " 1 5");
        checks.due("place and told", Picture.told(proved), TOLD + " 5");
    }

    private static void readingLeavesAll() {
        checks.about("3, 10, 13, 14, 16: what is only read stays");
        for (Picture.Run scene : scenesToChange()) {
            Picture.Run read = x -> {
                scene.on(x);
                x.get(OTHER, 7);
                x.compare(OTHER, ANOTHER);
                x.length();
                x.at(3);
                x.place();
            };
            checks.due("all", Picture.of(read), Picture.of(scene));
        }
    }
}
