/** Promises 11 to 14: the tape, each sentence at its edges. */
public final class TapeTest {
    private static final int FULL = PrimeCertificates.FULL;
    private static final int NO = PrimeCertificates.NO;
    private static final int LEAST = Integer.MIN_VALUE;
    private static final int MOST = Integer.MAX_VALUE;

    private static final Checks checks = new Checks("TapeTest");

    public static void main(String[] args) {
        say();
        cut();
        length();
        at();
        sayUpTo4000();
        cutOf4000();
        atOf4000();
        checks.finish();
    }

    private static void say() {
        checks.about("11: An int behind the tape: how many it has");
        Calls x = new Calls();
        int[] ints = {7, -1, LEAST, MOST, 0, 1};
        for (int i = 0; i < ints.length; i++) {
            checks.due("say(" + ints[i] + ")", x.say(ints[i]), i + 1);
        }
        checks.due("tape", Checks.tape(x), "7 -1 -2147483648 2147483647 0 1");
        checks.due("get(0, 0)", x.get(0, 0), 0);
    }

    private static void cut() {
        checks.about("12: The tape keeps its first n ints: true");
        Calls x = Checks.withTape(7, -1, LEAST);
        checks.due("cut(3)", x.cut(3), true);
        checks.due("tape", Checks.tape(x), "7 -1 -2147483648");
        checks.due("cut(1)", x.cut(1), true);
        checks.due("tape", Checks.tape(x), "7");
        checks.due("say(9)", x.say(9), 2);
        checks.due("tape", Checks.tape(x), "7 9");
        checks.about("12: false when it has not so many");
        for (int n : new int[] {3, 4, 4000, 4001, MOST}) {
            checks.due("cut(" + n + ")", x.cut(n), false);
        }
        checks.about("12: or n is below 0");
        for (int n : new int[] {-1, -2, -3, LEAST}) {
            checks.due("cut(" + n + ")", x.cut(n), false);
        }
        checks.due("tape", Checks.tape(x), "7 9");
        checks.about("12: an empty tape");
        checks.due("cut(0)", x.cut(0), true);
        checks.due("length()", x.length(), 0);
        checks.due("cut(0) of none", x.cut(0), true);
        checks.due("cut(1) of none", x.cut(1), false);
        checks.due("cut(2) of what was", x.cut(2), false);
        checks.due("cut(-1) of none", x.cut(-1), false);
        checks.due("say(5)", x.say(5), 1);
        checks.due("tape", Checks.tape(x), "5");
    }

    private static void length() {
        checks.about("13: How many ints the tape has");
        Calls x = new Calls();
        checks.due("length()", x.length(), 0);
        for (int n = 1; n <= 5; n++) {
            x.say(-n);
            checks.due("length()", x.length(), n);
        }
        x.cut(6);
        checks.due("length() after a cut that is refused", x.length(), 5);
        x.cut(2);
        checks.due("length() after a cut", x.length(), 2);
        x.put(0, 0, 3);
        checks.due("length() after put", x.length(), 2);
        x.cut(0);
        x.prove(0);
        checks.due("length() after prove", x.length(), 2);
        checks.due("tape after prove", Checks.tape(x), "1 3");
    }

    private static void at() {
        checks.about("14: Int i of the tape");
        Calls x = Checks.withTape(7, -1, LEAST);
        checks.due("at(0)", x.at(0), 7);
        checks.due("at(1)", x.at(1), -1);
        checks.due("at(2)", x.at(2), LEAST);
        checks.about("14: 0 when there is none");
        for (int i : new int[] {3, 4, 3999, 4000, 4001, MOST, -1, -2, LEAST}) {
            checks.due("at(" + i + ")", x.at(i), 0);
        }
        x.cut(1);
        checks.due("at(0) after a cut", x.at(0), 7);
        checks.due("at(1) of what was cut", x.at(1), 0);
        checks.due("at(2) of what was cut", x.at(2), 0);
        x.cut(0);
        checks.due("at(0) of none", x.at(0), 0);
    }

    private static void sayUpTo4000() {
        checks.about("11: FULL when it has 4000");
        Calls x = FullTape.of(3998);
        checks.due("length()", x.length(), 3998);
        checks.due("say, the 3999th", x.say(1), 3999);
        checks.due("say, the 4000th", x.say(5), 4000);
        int lines = x.check();
        checks.due("lines", lines > 40, true);
        checks.due("say, the 4001st", x.say(9), FULL);
        checks.due("say again", x.say(-9), FULL);
        checks.due("length() stays", x.length(), 4000);
        checks.due("at(3998) stays", x.at(3998), 1);
        checks.due("at(3999) stays", x.at(3999), 5);
        checks.due("at(0) stays", x.at(0), 1);
        checks.due("at(1) stays", x.at(1), 2);
        checks.due("place() stays", x.place(), NO);
        checks.due("tell() stays", x.tell(lines - 1, 7), true);
        checks.due("what is told", x.get(7, 0), 5);
        checks.due("tell() of no line", x.tell(lines, 7), false);
        checks.due("register 4 stays", x.get(4, 0), 1);
        checks.due("check()", x.check(), lines);
        checks.due("cut(3999)", x.cut(3999), true);
        checks.due("say with room again", x.say(4), 4000);
        checks.due("at(3999)", x.at(3999), 4);
        checks.due("check()", x.check(), -103);
        checks.due("say at fault", x.say(9), FULL);
        checks.due("place() stays", x.place(), 3999);
        checks.due("tell() stays", x.tell(0, 7), false);
    }

    private static void cutOf4000() {
        checks.about("12: a full tape");
        Calls x = FullTape.of(4000);
        checks.due("cut(4001)", x.cut(4001), false);
        checks.due("cut(-1)", x.cut(-1), false);
        checks.due("length()", x.length(), 4000);
        checks.due("cut(4000)", x.cut(4000), true);
        checks.due("length()", x.length(), 4000);
        checks.due("say", x.say(1), FULL);
        checks.due("cut(3999)", x.cut(3999), true);
        checks.due("length()", x.length(), 3999);
        checks.due("cut(4000)", x.cut(4000), false);
        checks.due("cut(0)", x.cut(0), true);
        checks.due("length()", x.length(), 0);
        checks.due("say", x.say(1), 1);
    }

    private static void atOf4000() {
        checks.about("14: a full tape");
        Calls x = FullTape.of(4000);
        checks.due("at(3999)", x.at(3999), 3);
        checks.due("at(3998)", x.at(3998), 1);
        checks.due("at(4000)", x.at(4000), 0);
        checks.due("at(-1)", x.at(-1), 0);
        x.cut(3999);
        checks.due("at(3999)", x.at(3999), 0);
        checks.due("at(3998)", x.at(3998), 1);
    }
}
