import java.util.function.Supplier;

/**
 * "Refused calls answer NONE, or false, and change nothing": of every call each reason to refuse
 * it, with the first numbers that are refused on either side and those far away.
 */
public final class RefusedTest {
    private static final Refused BUSY = new Refused(Scenes::busy);
    private static final int MEMBERS = 5;
    private static final int TODAY = 2;

    private RefusedTest() {
    }

    public static void main(String[] args) {
        tape();
        rules();
        members();
        ordersByReasonOne();
        ordersByOtherReasons();
        cancels();
        rowsAndTrades();
        strikes();
        nights();
        looks();
        closing();
        receipts();
        notices();
        noticesInOtherScenes();
        passesAndKeeps();
        deliveryLooks();
        puttingRight();
        settles();
        equities();
        Check.finish("RefusedTest");
    }

    /** Numbers that are not low .. high: next to them, far away, and alike in their lowest bits. */
    private static int[] outside(int low, int high) {
        return new int[] {low - 1, high + 1, Integer.MIN_VALUE, Integer.MAX_VALUE, low + (1 << 24), high - (1 << 24)};
    }

    private static Refused in(Supplier<Pit> scene) {
        return new Refused(scene);
    }

    private static void tape() {
        for (int bytes : new int[] {581, 599, 600}) {
            in(() -> Scenes.tape(bytes)).isNone("feed behind " + bytes + " bytes", pit -> pit.feed(-1, 2, 3, 4, 5));
        }
        for (int n : outside(0, 23)) {
            BUSY.isFalse("end(" + n + ") of 23 bytes", pit -> pit.end(n));
        }
        in(Pit::new).isFalse("end(1) of none", pit -> pit.end(1));
    }

    private static void rules() {
        for (int what : outside(0, 1)) {
            BUSY.isNone("fault(" + what + ")", pit -> pit.fault(what));
        }
        for (int name : outside(0, 5)) {
            BUSY.isMissing("rule of name " + name, pit -> pit.rule(name, 0, 0, 0, 0, 0, 0));
        }
        for (int day : outside(0, 150)) {
            BUSY.isMissing("rule on day " + day, pit -> pit.rule(0, day, 0, 0, 0, 0, 0));
        }
    }

    private static void members() {
        in(() -> Check.withMembers(12)).isNone("the 13th member", Pit::member);
        for (int member : outside(0, MEMBERS - 1)) {
            BUSY.isMissing("pay of member " + member, pit -> pit.pay(member, 1));
        }
        for (int v : new int[] {-1000001, 1000001, Integer.MIN_VALUE, Integer.MAX_VALUE}) {
            BUSY.isMissing("pay of " + v, pit -> pit.pay(1, v));
        }
        in(Pit::new).isMissing("pay without members", pit -> pit.pay(0, 1));
    }

    private static void ordersByReasonOne() {
        for (boolean buy : new boolean[] {true, false}) {
            for (int member : outside(0, MEMBERS - 1)) {
                BUSY.answers("order of member " + member, pit -> pit.order(member, buy, 5, 80, 1), -2);
            }
            for (int month : outside(0, 5)) {
                BUSY.answers("order in month " + month, pit -> pit.order(0, buy, month, 80, 1), -2);
            }
            for (int price : outside(1, 10000)) {
                BUSY.answers("order at " + price, pit -> pit.order(0, buy, 4, price, 1), -2);
            }
            for (int lots : outside(1, 50)) {
                BUSY.answers("order of " + lots, pit -> pit.order(0, buy, 5, 80, lots), -2);
            }
        }
    }

    private static void ordersByOtherReasons() {
        BUSY.answers("a buyer in DEFAULT", pit -> pit.order(3, true, 5, 80, 1), -3);
        BUSY.answers("a seller in DEFAULT", pit -> pit.order(3, false, 5, 70, 1), -3);
        BUSY.answers("a bid in a CLOSED month", pit -> pit.order(1, true, 0, 99, 1), -3);
        BUSY.answers("an offer in a CLOSED month", pit -> pit.order(1, false, 0, 99, 1), -3);
        // SETTLE of month 2 is 60 and limit 50: 9 and 111 are the first that are too far
        BUSY.answers("a bid too low", pit -> pit.order(1, true, 2, 9, 1), -4);
        BUSY.answers("a bid too high, though it would be filled", pit -> pit.order(1, true, 2, 111, 1), -4);
        BUSY.answers("an offer too low, though it would be filled", pit -> pit.order(4, false, 2, 9, 1), -4);
        BUSY.answers("an offer too high", pit -> pit.order(4, false, 2, 111, 1), -4);
        // cap is 100, and 60 wait
        Supplier<Pit> capped = () -> {
            Pit pit = Scenes.busy();
            pit.order(0, true, 4, 90, 50);
            pit.order(0, true, 4, 90, 10);
            pit.order(1, false, 4, 95, 50);
            pit.order(1, false, 4, 95, 10);
            return pit;
        };
        in(capped).answers("a bid above cap", pit -> pit.order(0, true, 4, 90, 41), -5);
        in(capped).answers("a bid above cap that would be filled", pit -> pit.order(0, true, 4, 95, 41), -5);
        in(capped).answers("an offer above cap", pit -> pit.order(1, false, 4, 90, 41), -5);
        in(() -> Scenes.waiting(120)).answers("the 121st bid", pit -> pit.order(0, true, 0, 10, 1), -6);
        in(() -> Scenes.waiting(120)).answers("one that would be filled", pit -> pit.order(0, true, 0, 20, 1), -6);
        in(() -> Scenes.waiting(120)).answers("an offer", pit -> pit.order(1, false, 0, 10, 1), -6);
    }

    private static void cancels() {
        for (int member : outside(0, MEMBERS - 1)) {
            BUSY.isNone("cancel of member " + member, pit -> pit.cancel(member, 5));
        }
        for (int month : outside(0, 5)) {
            BUSY.isNone("cancel in month " + month, pit -> pit.cancel(0, month));
        }
        BUSY.isNone("cancel where another's waits", pit -> pit.cancel(2, 1));
        BUSY.isNone("cancel where one's own waits in another month", pit -> pit.cancel(0, 3));
        BUSY.isNone("cancel in a CLOSED month", pit -> pit.cancel(0, 0));
        BUSY.isNone("cancel by one in DEFAULT", pit -> pit.cancel(3, 1));
    }

    private static void rowsAndTrades() {
        for (boolean buy : new boolean[] {true, false}) {
            for (int month : outside(0, 5)) {
                BUSY.isNone("waiting in month " + month, pit -> pit.waiting(buy, month, 0, 0));
            }
            for (int i : outside(0, 1)) {
                BUSY.isNone("waiting " + i, pit -> pit.waiting(buy, buy ? 1 : 2, i, 0));
            }
            for (int what : outside(0, 2)) {
                BUSY.isNone("waiting, what " + what, pit -> pit.waiting(buy, buy ? 1 : 2, 0, what));
            }
            BUSY.isNone("waiting where none does", pit -> pit.waiting(buy, 4, 0, 0));
        }
        for (int t : outside(0, 6)) {
            BUSY.isNone("trade " + t, pit -> pit.trade(t, 0));
        }
        for (int what : outside(0, 6)) {
            BUSY.isNone("trade, what " + what, pit -> pit.trade(0, what));
        }
    }

    private static void strikes() {
        for (int t : outside(0, 6)) {
            BUSY.isFalse("strike(" + t + ")", pit -> pit.strike(t));
        }
        BUSY.isFalse("strike what is STRUCK", pit -> pit.strike(4));
        BUSY.isFalse("strike what one in DEFAULT bought", pit -> pit.strike(3));
        BUSY.isFalse("strike in a CLOSED month", pit -> pit.strike(0));
        Supplier<Pit> sellerFell = () -> {
            Pit pit = Check.withMembers(3);
            pit.pay(1, 1000);
            pit.pay(0, -1);
            Check.deal(pit, 1, 0, 0, 1, 100);
            pit.night();
            Check.is("0 falls", pit.night(), 1);
            return pit;
        };
        in(sellerFell).isFalse("strike what one in DEFAULT sold", pit -> pit.strike(0));
        in(Pit::new).isFalse("strike without trades", pit -> pit.strike(0));
    }

    private static void nights() {
        in(Scenes::lastDay).isNone("night of day 150", Pit::night);
    }

    private static void looks() {
        for (int member : outside(0, MEMBERS - 1)) {
            BUSY.isMissing("money of " + member, pit -> pit.money(member, 0));
            BUSY.isMissing("position of " + member, pit -> pit.position(member, 0));
        }
        for (int what : outside(0, 6)) {
            BUSY.isMissing("money, what " + what, pit -> pit.money(0, what));
        }
        for (int month : outside(0, 5)) {
            BUSY.isMissing("position in " + month, pit -> pit.position(0, month));
            BUSY.isNone("longOf in " + month, pit -> pit.longOf(month, 0, 0));
        }
        for (int i : outside(0, 1)) {
            BUSY.isNone("longOf " + i, pit -> pit.longOf(0, i, 0));
        }
        for (int what : outside(0, 1)) {
            BUSY.isNone("longOf, what " + what, pit -> pit.longOf(0, 0, what));
        }
        for (int what : outside(0, 8)) {
            BUSY.isNone("count(" + what + ")", pit -> pit.count(what));
        }
    }

    private static void closing() {
        for (int month : outside(0, 5)) {
            BUSY.isFalse("deliver(" + month + ")", pit -> pit.deliver(month));
        }
        BUSY.isFalse("deliver what is CLOSED", pit -> pit.deliver(0));
    }

    private static void receipts() {
        for (int member : outside(0, MEMBERS - 1)) {
            BUSY.isNone("receipt of " + member, pit -> pit.receipt(member, 0, 0));
        }
        for (int n : outside(0, 3)) {
            BUSY.isNone("receipt of grade " + n, pit -> pit.receipt(0, n, 0));
            BUSY.isNone("receipt at place " + n, pit -> pit.receipt(0, 0, n));
        }
        in(() -> Scenes.receipts(60)).isNone("the 61st receipt", pit -> pit.receipt(0, 0, 0));
    }

    private static void notices() {
        for (int member : outside(0, MEMBERS - 1)) {
            BUSY.isNone("notice of " + member, pit -> pit.notice(member, 0, 4));
        }
        for (int month : outside(0, 5)) {
            BUSY.isNone("notice in " + month, pit -> pit.notice(0, month, 4));
        }
        for (int receipt : outside(0, 5)) {
            BUSY.isNone("notice of receipt " + receipt, pit -> pit.notice(0, 0, receipt));
        }
        BUSY.isNone("notice of a receipt that is not FREE", pit -> pit.notice(0, 0, 3));
        BUSY.isNone("notice of another's receipt", pit -> pit.notice(0, 0, 5));
        BUSY.isNone("notice of a receipt that was one's own", pit -> pit.notice(0, 0, 0));
        BUSY.isNone("notice of a long", pit -> pit.notice(2, 0, 5));
        BUSY.isNone("notice without a POSITION", pit -> pit.notice(1, 0, 0));
        BUSY.isNone("notice in an open month, short, with a SETTLE", pit -> pit.notice(2, 2, 5));
    }

    private static void noticesInOtherScenes() {
        Supplier<Pit> noSettle = () -> {
            Pit pit = Check.withMembers(2);
            Check.deal(pit, 1, 0, 0, 1, 100);
            pit.receipt(0, 0, 0);
            pit.deliver(0);
            return pit;
        };
        in(noSettle).isNone("notice ahead of any SETTLE", pit -> pit.notice(0, 0, 0));
        Supplier<Pit> allHeld = () -> {
            Pit pit = Scenes.busy();
            Check.is("the third for three lots", pit.notice(0, 0, 4), 5);
            pit.receipt(0, 0, 0);
            return pit;
        };
        in(allHeld).isNone("as many are HELD as lots are short", pit -> pit.notice(0, 0, 6));
        in(() -> Scenes.notices(80)).isNone("the 81st notice", pit -> pit.notice(0, 0, 40));
    }

    private static void passesAndKeeps() {
        for (int notice : outside(0, 4)) {
            BUSY.isNone("pass(" + notice + ")", pit -> pit.pass(notice));
            BUSY.isNone("keep(" + notice + ")", pit -> pit.keep(notice));
        }
        BUSY.isNone("pass what is KEPT", pit -> pit.pass(0));
        BUSY.isNone("pass what is VOID", pit -> pit.pass(2));
        BUSY.isNone("pass where nobody is behind", pit -> pit.pass(3));
        BUSY.isNone("keep what is KEPT", pit -> pit.keep(0));
        BUSY.isNone("keep what is VOID", pit -> pit.keep(2));
    }

    private static void deliveryLooks() {
        for (int n : outside(0, 4)) {
            BUSY.isNone("told of " + n, pit -> pit.told(n, 0));
            BUSY.isNone("squeeze, what " + n, pit -> pit.squeeze(0, n));
        }
        for (int n : outside(0, 5)) {
            BUSY.isNone("told, what " + n, pit -> pit.told(0, n));
            BUSY.isNone("stored of " + n, pit -> pit.stored(n, 0));
            BUSY.isNone("squeeze of month " + n, pit -> pit.squeeze(n, 1));
        }
        for (int n : outside(0, 3)) {
            BUSY.isNone("stored, what " + n, pit -> pit.stored(0, n));
        }
    }

    private static void puttingRight() {
        for (int month : outside(0, 5)) {
            BUSY.isFalse("right of month " + month, pit -> pit.right(month, 0, 50));
        }
        for (int day : outside(0, TODAY - 1)) {
            BUSY.isFalse("right of day " + day, pit -> pit.right(0, day, 50));
        }
        for (int price : outside(1, 10000)) {
            BUSY.isFalse("right at " + price, pit -> pit.right(0, 0, price));
        }
        BUSY.isFalse("right of a month without a SETTLE", pit -> pit.right(4, 1, 50));
        BUSY.isFalse("right of a day ahead of the first SETTLE", pit -> pit.right(2, 0, 50));
        BUSY.isFalse("right where the only trade is STRUCK", pit -> pit.right(3, 0, 50));
        in(() -> Scenes.righted(100)).isFalse("the 101st right", pit -> pit.right(0, 0, 50));
        in(Pit::new).isFalse("right where no day is over", pit -> pit.right(0, 0, 50));
    }

    private static void settles() {
        for (int month : outside(0, 5)) {
            BUSY.isNone("settle of month " + month, pit -> pit.settle(month, 0, 0));
        }
        for (int day : outside(0, TODAY - 1)) {
            BUSY.isNone("settle of day " + day, pit -> pit.settle(0, day, TODAY));
            BUSY.isNone("settle of day " + day + " on itself", pit -> pit.settle(0, day, day));
        }
        for (int known : outside(1, TODAY)) {
            BUSY.isNone("settle of day 1 as known on " + known, pit -> pit.settle(0, 1, known));
        }
        BUSY.isNone("settle of a month without one", pit -> pit.settle(4, 1, 1));
        BUSY.isNone("settle of a day ahead of the first", pit -> pit.settle(2, 0, 2));
    }

    private static void equities() {
        for (int member : outside(0, MEMBERS - 1)) {
            BUSY.isMissing("equity of " + member, pit -> pit.equity(member, 0, 0));
        }
        for (int day : outside(0, TODAY - 1)) {
            BUSY.isMissing("equity of day " + day, pit -> pit.equity(0, day, TODAY));
            BUSY.isMissing("equity of day " + day + " on itself", pit -> pit.equity(0, day, day));
        }
        for (int known : outside(1, TODAY)) {
            BUSY.isMissing("equity of day 1 as known on " + known, pit -> pit.equity(0, 1, known));
        }
    }
}
