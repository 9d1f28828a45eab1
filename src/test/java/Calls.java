/** An object of the class that counts its calls: after the 512th the document leaves all free. */
final class Calls {
    static final int MOST = 512;

    private final PrimeCertificates object = new PrimeCertificates();
    private int made = 0;

    int left() {
        return MOST - made;
    }

    private PrimeCertificates next() {
        made++;
        if (made > MOST) {
            throw new IllegalStateException("a test asks for more than " + MOST + " calls");
        }
        return object;
    }

    boolean put(int register, int i, int v) {
        return next().put(register, i, v);
    }

    int get(int register, int i) {
        return next().get(register, i);
    }

    int add(int a, int b, int to) {
        return next().add(a, b, to);
    }

    int subtract(int a, int b, int to) {
        return next().subtract(a, b, to);
    }

    int multiply(int a, int b, int to) {
        return next().multiply(a, b, to);
    }

    int divide(int a, int b, int to, int rest) {
        return next().divide(a, b, to, rest);
    }

    int power(int a, int b, int m, int to) {
        return next().power(a, b, m, to);
    }

    int common(int a, int b, int to) {
        return next().common(a, b, to);
    }

    int compare(int a, int b) {
        return next().compare(a, b);
    }

    int say(int v) {
        return next().say(v);
    }

    boolean cut(int n) {
        return next().cut(n);
    }

    int length() {
        return next().length();
    }

    int at(int i) {
        return next().at(i);
    }

    int check() {
        return next().check();
    }

    int place() {
        return next().place();
    }

    boolean tell(int l, int to) {
        return next().tell(l, to);
    }

    int prove(int register) {
        return next().prove(register);
    }
}
