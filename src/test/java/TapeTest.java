/** Promises 11 to 14: the tape. That a full tape takes no more is seen in LimitsTest. */
public final class TapeTest {
    private static final Checks checks = new Checks("TapeTest");

    public static void main(String[] args) {
        PrimeCertificates x = new PrimeCertificates();
        checks.due("length()", x.length(), 0);
        checks.due("say(7)", x.say(7), 1);
        checks.due("say(-1)", x.say(-1), 2);
        checks.due("say(least)", x.say(Integer.MIN_VALUE), 3);
        checks.due("length()", x.length(), 3);
        checks.due("tape", Checks.tape(x), "7 -1 -2147483648");
        checks.due("at(-1)", x.at(-1), 0);
        checks.due("at(3)", x.at(3), 0);
        checks.due("at(most)", x.at(Integer.MAX_VALUE), 0);
        checks.due("at(least)", x.at(Integer.MIN_VALUE), 0);
        checks.due("cut(4)", x.cut(4), false);
        checks.due("cut(-1)", x.cut(-1), false);
        checks.due("cut(most)", x.cut(Integer.MAX_VALUE), false);
        checks.due("cut(least)", x.cut(Integer.MIN_VALUE), false);
        checks.due("length()", x.length(), 3);
        checks.due("cut(3)", x.cut(3), true);
        checks.due("tape", Checks.tape(x), "7 -1 -2147483648");
        checks.due("cut(1)", x.cut(1), true);
        checks.due("length()", x.length(), 1);
        checks.due("at(0)", x.at(0), 7);
        checks.due("at(1)", x.at(1), 0);
        checks.due("cut(2)", x.cut(2), false);
        checks.due("say(9)", x.say(9), 2);
        checks.due("tape", Checks.tape(x), "7 9");
        checks.due("cut(0)", x.cut(0), true);
        checks.due("cut(0)", x.cut(0), true);
        checks.due("length()", x.length(), 0);
        checks.due("at(0)", x.at(0), 0);
        checks.due("put(0, 0, 3)", x.put(0, 0, 3), true);
        checks.due("a register leaves the tape alone", x.length(), 0);
        checks.finish();
    }
}
