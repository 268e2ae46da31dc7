/**
 * A GrainPit for tests, which counts its calls: the document promises nothing behind the 512th, so
 * no test may ask for it.
 */
final class Pit {
    private static final int PROMISED = 512;

    private final GrainPit pit = new GrainPit();
    private int calls;

    /** How many calls more it may be asked. */
    int left() {
        return PROMISED - calls;
    }

    private GrainPit next() {
        calls++;
        if (calls > PROMISED) {
            throw new AssertionError("a test asks for more than " + PROMISED + " calls of one object");
        }
        return pit;
    }

    int feed(int a, int b, int c, int d, int e) {
        return next().feed(a, b, c, d, e);
    }

    boolean end(int n) {
        return next().end(n);
    }

    int rules() {
        return next().rules();
    }

    int fault(int what) {
        return next().fault(what);
    }

    int rule(int name, int day, int month, int price, int lots, int grade, int place) {
        return next().rule(name, day, month, price, lots, grade, place);
    }

    int member() {
        return next().member();
    }

    long pay(int member, int v) {
        return next().pay(member, v);
    }

    int order(int member, boolean buy, int month, int price, int lots) {
        return next().order(member, buy, month, price, lots);
    }

    int cancel(int member, int month) {
        return next().cancel(member, month);
    }

    int waiting(boolean buy, int month, int i, int what) {
        return next().waiting(buy, month, i, what);
    }

    int trade(int t, int what) {
        return next().trade(t, what);
    }

    boolean strike(int t) {
        return next().strike(t);
    }

    int night() {
        return next().night();
    }

    long money(int member, int what) {
        return next().money(member, what);
    }

    int position(int member, int month) {
        return next().position(member, month);
    }

    int longOf(int month, int i, int what) {
        return next().longOf(month, i, what);
    }

    int count(int what) {
        return next().count(what);
    }

    boolean deliver(int month) {
        return next().deliver(month);
    }

    int receipt(int member, int grade, int place) {
        return next().receipt(member, grade, place);
    }

    int notice(int member, int month, int receipt) {
        return next().notice(member, month, receipt);
    }

    int pass(int notice) {
        return next().pass(notice);
    }

    int keep(int notice) {
        return next().keep(notice);
    }

    int told(int notice, int what) {
        return next().told(notice, what);
    }

    int stored(int receipt, int what) {
        return next().stored(receipt, what);
    }

    int squeeze(int month, int what) {
        return next().squeeze(month, what);
    }

    boolean right(int month, int day, int price) {
        return next().right(month, day, price);
    }

    int settle(int month, int day, int known) {
        return next().settle(month, day, known);
    }

    long equity(int member, int day, int known) {
        return next().equity(member, day, known);
    }
}
