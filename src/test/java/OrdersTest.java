/** Promises 7 to 13: members, payments, orders, trades, struck trades. */
public final class OrdersTest {
    private OrdersTest() {
    }

    public static void main(String[] args) {
        members();
        payments();
        refusedByReasonOne();
        refusedByDefaultOrClosed();
        refusedByLimit();
        limitKnowsItsWords();
        refusedByCap();
        capKnowsItsWords();
        refusedByNumber();
        reasonsInTheirOrder();
        fillsByPriceAndTime();
        fillsBids();
        restWaits();
        ownOrders();
        monthsAreApart();
        cancelling();
        waitingLooks();
        tradeLooks();
        striking();
        strikingMakesLongs();
        strikeRefuses();
        Check.finish("OrdersTest");
    }

    private static void members() {
        Pit pit = new Pit();
        for (int i = 0; i < 12; i++) {
            Check.is("member " + i, pit.member(), i);
        }
        Check.is("member 12", pit.member(), GrainPit.NONE);
        Check.is("count(1)", pit.count(1), 12);
    }

    private static void payments() {
        Pit pit = Check.withMembers(2);
        Check.is("pay", pit.pay(1, 1000000), 1000000);
        Check.is("pay more", pit.pay(1, 5), 1000005);
        Check.is("take out", pit.pay(1, -1000000), 5);
        Check.is("below 0", pit.pay(1, -1000000), -999995);
        Check.is("nothing", pit.pay(0, 0), 0);
        Check.isMissing("pay(2, 1)", () -> pit.pay(2, 1));
        Check.isMissing("pay(-1, 1)", () -> pit.pay(-1, 1));
        Check.isMissing("pay(1, 1000001)", () -> pit.pay(1, 1000001));
        Check.isMissing("pay(1, -1000001)", () -> pit.pay(1, -1000001));
        Check.isMissing("pay(1, least)", () -> pit.pay(1, Integer.MIN_VALUE));
        Check.is("paid as it was", pit.money(1, 0), -999995);
        Pit rich = Check.withMembers(1);
        long sum = 0;
        for (int i = 0; i < 300; i++) {
            sum += 1000000;
            Check.is("pay " + i, rich.pay(0, 1000000), sum);
        }
        for (int i = 0; i < 200; i++) {
            sum += 1000000;
            rich.pay(0, 1000000);
        }
        Check.is("paid in all", rich.money(0, 0), sum);
    }

    private static void refusedByReasonOne() {
        Pit pit = Check.withMembers(2);
        Check.is("member 2", pit.order(2, true, 0, 5, 1), -2);
        Check.is("member -1", pit.order(-1, true, 0, 5, 1), -2);
        Check.is("month 6", pit.order(0, true, 6, 5, 1), -2);
        Check.is("month -1", pit.order(0, true, -1, 5, 1), -2);
        Check.is("lots 0", pit.order(0, true, 0, 5, 0), -2);
        Check.is("lots 51", pit.order(0, true, 0, 5, 51), -2);
        Check.is("lots -1", pit.order(0, false, 0, 5, -1), -2);
        Check.is("price 0", pit.order(0, true, 0, 0, 1), -2);
        Check.is("price 10001", pit.order(0, false, 0, 10001, 1), -2);
        Check.is("price -1", pit.order(0, false, 0, -1, 1), -2);
        Check.is("none waits", pit.count(3), 0);
        Check.is("the edges", pit.order(1, true, 5, 10000, 50), 0);
        Check.is("the edges", pit.order(1, false, 0, 1, 1), 0);
        Check.is("two wait", pit.count(3), 2);
    }

    /** Three members: 0 is long one lot against 1 at 100, and came into DEFAULT. */
    private static Pit withDefault() {
        Pit pit = Check.withMembers(3);
        Check.tell(pit, "keep from 0 is 10; first from 0 is 10;");
        pit.pay(1, 1000);
        Check.deal(pit, 0, 1, 0, 1, 100);
        Check.is("called", pit.night(), 0);
        Check.is("default", pit.night(), 1);
        return pit;
    }

    private static void refusedByDefaultOrClosed() {
        Pit pit = withDefault();
        Check.is("in default", pit.order(0, true, 1, 100, 1), -3);
        Check.is("in default, sells", pit.order(0, false, 1, 100, 1), -3);
        Check.is("another member", pit.order(1, true, 1, 100, 1), 0);
        pit.deliver(2);
        Check.is("closed", pit.order(1, true, 2, 100, 1), -3);
        Check.is("open", pit.order(1, true, 3, 100, 1), 0);
    }

    private static void refusedByLimit() {
        Pit pit = Check.withMembers(2);
        Check.tell(pit, "limit from 0 is 10;");
        Check.is("no SETTLE yet", pit.order(0, true, 0, 10000, 1), 0);
        Check.is("no SETTLE yet", pit.order(1, false, 0, 1, 1), 1);
        Check.is("SETTLE counts from the day's end", pit.order(0, true, 0, 100, 1), 0);
        Check.is("a trade", pit.order(1, false, 0, 100, 1), 1);
        pit.night();
        Check.is("settle", pit.settle(0, 0, 0), 100);
        Check.is("too low", pit.order(0, true, 0, 89, 1), -4);
        Check.is("too high", pit.order(0, true, 0, 111, 1), -4);
        Check.is("too low to sell", pit.order(0, false, 0, 89, 1), -4);
        Check.is("too high to sell", pit.order(0, false, 0, 111, 1), -4);
        Check.is("low enough", pit.order(0, true, 0, 90, 1), 0);
        Check.is("high enough", pit.order(1, false, 0, 110, 1), 0);
        Check.is("another month has none", pit.order(0, true, 1, 9999, 1), 0);
        pit.right(0, 0, 200);
        Check.is("by what was put right", pit.order(0, true, 0, 110, 1), -4);
        Check.is("by what was put right", pit.order(0, true, 0, 190, 1), 1);
        Check.tell(pit, "limit from 0 is -1;");
        Check.is("a limit below 0", pit.order(0, true, 0, 200, 1), -4);
        Pit plain = Check.withMembers(2);
        Check.deal(plain, 0, 1, 0, 1, 2000);
        plain.night();
        Check.is("limit 1000 without a rule", plain.order(0, true, 0, 1000, 1), 0);
        Check.is("limit 1000 without a rule", plain.order(0, true, 0, 999, 1), -4);
        Check.is("limit 1000 without a rule", plain.order(1, false, 0, 3000, 1), 0);
        Check.is("limit 1000 without a rule", plain.order(1, false, 0, 3001, 1), -4);
    }

    private static void limitKnowsItsWords() {
        Pit pit = Check.withMembers(2);
        Check.tell(pit, "limit from 0 is day * 100 + month * 10 + price / 50 + lots + grade + place;");
        Check.deal(pit, 0, 1, 2, 5, 100);
        pit.night();
        Check.is("122 is the limit", pit.order(0, true, 2, 222, 7), 0);
        Check.is("122 is the limit", pit.order(0, true, 2, 223, 7), -4);
    }

    private static void refusedByCap() {
        Pit pit = Check.withMembers(3);
        Check.tell(pit, "cap from 0 is 10;");
        Check.is("above cap at once", pit.order(0, true, 0, 50, 11), -5);
        Check.is("up to cap", pit.order(0, true, 0, 50, 6), 0);
        Check.is("with what waits", pit.order(0, true, 0, 40, 5), -5);
        Check.is("the other side counts by itself", pit.order(0, false, 0, 60, 10), 0);
        Check.is("another month counts by itself", pit.order(0, true, 1, 40, 10), 0);
        Check.is("another member counts by itself", pit.order(1, true, 0, 40, 10), 0);
        Check.is("fills 6", pit.order(2, false, 0, 50, 6), 6);
        Check.is("by POSITION", pit.order(0, true, 0, 40, 5), -5);
        Check.is("by POSITION", pit.order(0, true, 0, 40, 4), 0);
        Check.is("a short's POSITION", pit.order(2, false, 0, 70, 5), -5);
        Check.is("a short's POSITION", pit.order(2, false, 0, 70, 4), 0);
        Check.is("a short may buy more", pit.order(2, true, 0, 1, 16), 0);
        Check.is("but not more than that", pit.order(2, true, 0, 1, 1), -5);
        pit.cancel(0, 0);
        Check.is("a long may sell more, less what waits", pit.order(0, false, 0, 70, 7), -5);
        Check.is("a long may sell more, less what waits", pit.order(0, false, 0, 70, 6), 0);
        Pit plain = Check.withMembers(1);
        for (int i = 0; i < 20; i++) {
            Check.is("50 more", plain.order(0, true, 0, 50, 50), 0);
        }
        Check.is("cap 1000 without a rule", plain.order(0, true, 0, 50, 1), -5);
    }

    private static void capKnowsItsWords() {
        Pit pit = Check.withMembers(1);
        Check.tell(pit, "cap from 0 is day * 100 + month * 10 + lots + price + grade + place - 3;");
        Check.is("month 0", pit.order(0, true, 0, 50, 5), -5);
        Check.is("month 1: 7 and 5 against 12", pit.order(0, true, 1, 50, 7), 0);
        Check.is("month 1: 7 and 5 against 12", pit.order(0, true, 1, 50, 5), 0);
        Check.is("month 1: 12 and 5 against 12", pit.order(0, true, 1, 50, 5), -5);
        pit.night();
        Check.is("day 1", pit.order(0, true, 0, 50, 5), 0);
    }

    private static void refusedByNumber() {
        Pit pit = Check.withMembers(2);
        for (int i = 0; i < 120; i++) {
            Check.is("order " + i, pit.order(i % 2, i % 3 == 0, i % 6, i % 3 == 0 ? 10 : 20, 1), 0);
        }
        Check.is("120 wait", pit.count(3), 120);
        Check.is("the 121st", pit.order(0, true, 0, 5, 1), -6);
        Check.is("one that would be filled", pit.order(0, true, 1, 20, 1), -6);
        Check.is("cancel", pit.cancel(0, 0), 1);
        Check.is("filled then", pit.order(0, true, 1, 20, 1), 1);
        Check.is("118 wait", pit.count(3), 118);
        Check.is("cap first", pit.order(0, true, 1, 20, 1), 1);
        pit.night();
        Check.is("none waits", pit.count(3), 0);
        Check.is("room again", pit.order(0, true, 0, 5, 1), 0);
    }

    private static void reasonsInTheirOrder() {
        Pit pit = withDefault();
        Check.tell(pit, "limit from 0 is 0; cap from 0 is 0;");
        Check.is("1 ahead of 2", pit.order(0, true, 0, 0, 1), -2);
        Check.is("2 ahead of 3", pit.order(0, true, 0, 101, 1), -3);
        Check.is("3 ahead of 4", pit.order(1, true, 0, 101, 1), -4);
        Check.is("4", pit.order(1, true, 0, 100, 1), -5);
        Check.tell(pit, "cap from 0 is 1000;");
        for (int i = 0; i < 120; i++) {
            pit.order(1, true, 3, 100, 1);
        }
        Check.is("5", pit.order(1, true, 3, 100, 1), -6);
        Check.tell(pit, "cap from 0 is 120;");
        Check.is("4 ahead of 5", pit.order(1, true, 3, 100, 1), -5);
    }

    private static void isTrade(Pit pit, int t, int price, int lots, int buyer, int seller) {
        Check.is("trade " + t + " price", pit.trade(t, 1), price);
        Check.is("trade " + t + " lots", pit.trade(t, 2), lots);
        Check.is("trade " + t + " buyer", pit.trade(t, 3), buyer);
        Check.is("trade " + t + " seller", pit.trade(t, 4), seller);
    }

    private static void fillsByPriceAndTime() {
        Pit pit = Check.withMembers(5);
        pit.order(0, false, 0, 52, 2);
        pit.order(1, false, 0, 50, 3);
        pit.order(2, false, 0, 51, 4);
        pit.order(3, false, 0, 50, 1);
        pit.order(0, false, 0, 53, 9);
        Check.is("too low", pit.order(4, true, 0, 49, 1), 0);
        pit.cancel(4, 0);
        Check.is("fills from the lowest", pit.order(4, true, 0, 52, 9), 9);
        Check.is("trades", pit.count(2), 4);
        isTrade(pit, 0, 50, 3, 4, 1);
        isTrade(pit, 1, 50, 1, 4, 3);
        isTrade(pit, 2, 51, 4, 4, 2);
        isTrade(pit, 3, 52, 1, 4, 0);
        Check.is("what is left of 0's", pit.waiting(false, 0, 0, 2), 1);
        Check.is("at its price", pit.waiting(false, 0, 0, 1), 52);
        Check.is("next", pit.waiting(false, 0, 1, 1), 53);
        Check.is("position of 4", pit.position(4, 0), 9);
        Check.is("position of 1", pit.position(1, 0), -3);
        Check.is("worth of 4", pit.money(4, 1), -(200 + 204 + 52));
        Check.is("worth of 2", pit.money(2, 1), 204);
    }

    private static void fillsBids() {
        Pit pit = Check.withMembers(4);
        pit.order(0, true, 3, 50, 2);
        pit.order(1, true, 3, 52, 3);
        pit.order(2, true, 3, 52, 4);
        pit.order(0, true, 3, 49, 5);
        Check.is("fills from the highest down to 50", pit.order(3, false, 3, 50, 20), 9);
        isTrade(pit, 0, 52, 3, 1, 3);
        isTrade(pit, 1, 52, 4, 2, 3);
        isTrade(pit, 2, 50, 2, 0, 3);
        Check.is("the rest waits", pit.waiting(false, 3, 0, 2), 11);
        Check.is("at its own price", pit.waiting(false, 3, 0, 1), 50);
        Check.is("and who", pit.waiting(false, 3, 0, 0), 3);
        Check.is("bid that did not meet", pit.waiting(true, 3, 0, 1), 49);
    }

    private static void restWaits() {
        Pit pit = Check.withMembers(3);
        pit.order(0, true, 0, 50, 5);
        pit.order(1, true, 0, 50, 5);
        Check.is("a part of the first", pit.order(2, false, 0, 50, 2), 2);
        Check.is("keeps its rank", pit.waiting(true, 0, 0, 0), 0);
        Check.is("with its rest", pit.waiting(true, 0, 0, 2), 3);
        Check.is("over both", pit.order(2, false, 0, 50, 4), 4);
        Check.is("now the second", pit.waiting(true, 0, 0, 0), 1);
        Check.is("with its rest", pit.waiting(true, 0, 0, 2), 4);
        Check.is("a rest that waits behind others", pit.order(2, false, 0, 49, 10), 4);
        Check.is("6 wait", pit.waiting(false, 0, 0, 2), 6);
        Check.is("no bid waits", pit.waiting(true, 0, 0, 0), GrainPit.NONE);
    }

    private static void ownOrders() {
        Pit pit = Check.withMembers(2);
        pit.order(0, false, 0, 50, 3);
        Check.is("with itself", pit.order(0, true, 0, 60, 2), 2);
        isTrade(pit, 0, 50, 2, 0, 0);
        Check.is("position", pit.position(0, 0), 0);
        Check.is("worth", pit.money(0, 1), 0);
        Check.is("no LONG", pit.longOf(0, 0, 0), GrainPit.NONE);
        pit.order(0, false, 0, 70, 9);
        Check.is("from 1, too", pit.order(1, true, 0, 50, 1), 1);
        Check.is("the LONG of 1", pit.longOf(0, 0, 0), 1);
        Check.is("1 with itself", pit.order(1, false, 0, 80, 1) + pit.order(1, true, 0, 69, 1), 0);
        pit.night();
        Check.is("SETTLE by the latest", pit.settle(0, 0, 0), 50);
        pit.order(0, false, 0, 55, 3);
        pit.order(0, true, 0, 55, 1);
        pit.night();
        Check.is("SETTLE by one with itself", pit.settle(0, 1, 1), 55);
        Check.is("strike one with itself", pit.strike(2), true);
        Check.is("its position", pit.position(0, 0), -1);
        Check.is("its worth", pit.money(0, 1), 50 - 55);
    }

    private static void monthsAreApart() {
        Pit pit = Check.withMembers(2);
        for (int month = 0; month < 6; month++) {
            Check.is("offer", pit.order(0, false, month, 50 + month, 1), 0);
        }
        Check.is("bid", pit.order(1, true, 4, 60, 5), 1);
        Check.is("its month", pit.trade(0, 0), 4);
        Check.is("its price", pit.trade(0, 1), 54);
        Check.is("position", pit.position(1, 4), 1);
        Check.is("position in another", pit.position(1, 3), 0);
        Check.is("wait", pit.count(3), 6);
    }

    private static void cancelling() {
        Pit pit = Check.withMembers(3);
        pit.order(0, true, 0, 50, 1);
        pit.order(0, false, 0, 60, 2);
        pit.order(0, true, 0, 55, 3);
        pit.order(0, true, 0, 45, 4);
        pit.order(1, true, 0, 50, 5);
        pit.order(0, true, 1, 50, 6);
        pit.order(0, false, 0, 65, 7);
        Check.is("the latest, an offer", pit.cancel(0, 0), 7);
        Check.is("the latest, by time, not by rank", pit.cancel(0, 0), 4);
        Check.is("then", pit.cancel(0, 0), 3);
        pit.order(2, true, 0, 60, 1);
        Check.is("what is left of one", pit.cancel(0, 0), 1);
        Check.is("then the first", pit.cancel(0, 0), 1);
        Check.is("none left", pit.cancel(0, 0), GrainPit.NONE);
        Check.is("of another month", pit.cancel(0, 1), 6);
        Check.is("of another member", pit.cancel(1, 0), 5);
        Check.is("none waits", pit.count(3), 0);
        Check.is("no such member", pit.cancel(3, 0), GrainPit.NONE);
        Check.is("no such member", pit.cancel(-1, 0), GrainPit.NONE);
        Check.is("no such month", pit.cancel(0, 6), GrainPit.NONE);
        Check.is("no such month", pit.cancel(0, -1), GrainPit.NONE);
    }

    private static void waitingLooks() {
        Pit pit = Check.withMembers(3);
        pit.order(0, true, 0, 50, 1);
        pit.order(1, true, 0, 52, 2);
        pit.order(2, true, 0, 50, 3);
        pit.order(1, false, 0, 60, 4);
        pit.order(2, false, 0, 58, 5);
        pit.order(0, false, 0, 60, 6);
        int[][] bids = {{1, 52, 2}, {0, 50, 1}, {2, 50, 3}};
        int[][] offers = {{2, 58, 5}, {1, 60, 4}, {0, 60, 6}};
        for (int i = 0; i < 3; i++) {
            for (int what = 0; what < 3; what++) {
                Check.is("bid " + i + " what " + what, pit.waiting(true, 0, i, what), bids[i][what]);
                Check.is("offer " + i + " what " + what, pit.waiting(false, 0, i, what), offers[i][what]);
            }
        }
        Check.is("i 3", pit.waiting(true, 0, 3, 0), GrainPit.NONE);
        Check.is("i -1", pit.waiting(true, 0, -1, 0), GrainPit.NONE);
        Check.is("what 3", pit.waiting(true, 0, 0, 3), GrainPit.NONE);
        Check.is("what -1", pit.waiting(true, 0, 0, -1), GrainPit.NONE);
        Check.is("month 6", pit.waiting(true, 6, 0, 0), GrainPit.NONE);
        Check.is("month -1", pit.waiting(false, -1, 0, 0), GrainPit.NONE);
        Check.is("month 1", pit.waiting(true, 1, 0, 0), GrainPit.NONE);
    }

    private static void tradeLooks() {
        Pit pit = Check.withMembers(3);
        pit.night();
        Check.deal(pit, 2, 1, 4, 7, 33);
        int[] due = {4, 33, 7, 2, 1, 1, 0};
        for (int what = 0; what < due.length; what++) {
            Check.is("trade(0, " + what + ")", pit.trade(0, what), due[what]);
        }
        Check.is("trade(0, 7)", pit.trade(0, 7), GrainPit.NONE);
        Check.is("trade(0, -1)", pit.trade(0, -1), GrainPit.NONE);
        Check.is("trade(1, 0)", pit.trade(1, 0), GrainPit.NONE);
        Check.is("trade(-1, 0)", pit.trade(-1, 0), GrainPit.NONE);
    }

    private static void striking() {
        Pit pit = Check.withMembers(3);
        Check.deal(pit, 0, 1, 0, 5, 40);
        Check.deal(pit, 0, 2, 0, 3, 50);
        Check.is("strike", pit.strike(0), true);
        Check.is("struck", pit.trade(0, 6), 1);
        Check.is("the other is not", pit.trade(1, 6), 0);
        Check.is("its lots are still told", pit.trade(0, 2), 5);
        Check.is("none is numbered", pit.count(2), 2);
        Check.is("position of 0", pit.position(0, 0), 3);
        Check.is("position of 1", pit.position(1, 0), 0);
        Check.is("worth of 0", pit.money(0, 1), -150);
        Check.is("worth of 1", pit.money(1, 1), 0);
        Check.is("again", pit.strike(0), false);
        Check.is("position stays", pit.position(0, 0), 3);
        // The LONGS are taken from the earliest on: 5 lots of the first are gone.
        Check.is("the LONG left", pit.longOf(0, 0, 1), 3);
        Check.is("the LONG left", pit.longOf(0, 1, 1), GrainPit.NONE);
        pit.night();
        Check.is("strike a day later", pit.strike(1), true);
        Check.is("position of 0", pit.position(0, 0), 0);
        Check.is("worth of 0", pit.money(0, 1), 0);
        Check.is("SETTLE stays", pit.settle(0, 0, 1), 50);
    }

    private static void strikingMakesLongs() {
        Pit pit = Check.withMembers(3);
        Check.deal(pit, 0, 1, 0, 5, 40);
        Check.deal(pit, 1, 2, 0, 8, 41);
        Check.is("1 has 3", pit.longOf(0, 1, 1), 3);
        Check.is("strike the first", pit.strike(0), true);
        Check.is("position of 0", pit.position(0, 0), 0);
        Check.is("position of 1", pit.position(1, 0), 8);
        Check.is("its first LONG", pit.longOf(0, 0, 1), 3);
        Check.is("its LONG behind", pit.longOf(0, 1, 1), 5);
        Check.is("its LONG behind", pit.longOf(0, 1, 0), 1);
        Check.is("no more", pit.longOf(0, 2, 0), GrainPit.NONE);
        Check.is("strike the second", pit.strike(1), true);
        Check.is("no LONG", pit.longOf(0, 0, 0), GrainPit.NONE);
        for (int i = 0; i < 3; i++) {
            Check.is("position", pit.position(i, 0), 0);
            Check.is("worth", pit.money(i, 1), 0);
        }
    }

    private static void strikeRefuses() {
        Pit pit = withDefault();
        Check.is("strike(-1)", pit.strike(-1), false);
        Check.is("strike(1)", pit.strike(1), false);
        Check.is("its buyer is in default", pit.strike(0), false);
        Check.is("not struck", pit.trade(0, 6), 0);
        Check.deal(pit, 2, 1, 1, 2, 100);
        Check.deal(pit, 2, 1, 2, 2, 100);
        pit.deliver(1);
        Check.is("its month is closed", pit.strike(1), false);
        Check.is("not struck", pit.trade(1, 6), 0);
        Check.is("another month", pit.strike(2), true);
        Pit other = Check.withMembers(2);
        Check.tell(other, "keep from 0 is 10; first from 0 is 10;");
        other.pay(1, 1000);
        Check.deal(other, 1, 0, 0, 1, 100);
        other.night();
        Check.is("default", other.night(), 1);
        Check.is("its seller is in default", other.strike(0), false);
    }
}
