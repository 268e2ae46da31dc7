/** Promises 27 to 29: SETTLES put right, SETTLES and EQUITY as known on a day. */
public final class TwoTimesTest {
    private TwoTimesTest() {
    }

    public static void main(String[] args) {
        puttingRight();
        rightRefuses();
        hundredPutRight();
        settleAsKnown();
        settleRefuses();
        equityAsItWas();
        equityAsKnown();
        equityBehindADefault();
        equityOfALaterMember();
        equityRefuses();
        Check.finish("TwoTimesTest");
    }

    private static Pit traded() {
        Pit pit = Check.withMembers(3);
        for (int i = 0; i < 3; i++) {
            pit.pay(i, 10000);
        }
        Check.deal(pit, 0, 1, 0, 2, 100);
        pit.night();
        return pit;
    }

    private static void puttingRight() {
        Pit pit = traded();
        Check.is("right", pit.right(0, 0, 110), true);
        Check.is("known today", pit.settle(0, 0, 1), 110);
        Check.is("known on its day", pit.settle(0, 0, 0), 100);
        Check.is("again today", pit.right(0, 0, 120), true);
        Check.is("the last told", pit.settle(0, 0, 1), 120);
        Check.is("the edges", pit.right(0, 0, 1), true);
        Check.is("the edges", pit.right(0, 0, 10000), true);
        Check.is("known today", pit.settle(0, 0, 1), 10000);
        Check.is("no trade is changed", pit.trade(0, 1), 100);
    }

    private static void rightRefuses() {
        Pit pit = traded();
        Check.is("month 6", pit.right(6, 0, 5), false);
        Check.is("month -1", pit.right(-1, 0, 5), false);
        Check.is("price 0", pit.right(0, 0, 0), false);
        Check.is("price 10001", pit.right(0, 0, 10001), false);
        Check.is("price -1", pit.right(0, 0, -1), false);
        Check.is("day -1", pit.right(0, -1, 5), false);
        Check.is("today", pit.right(0, 1, 5), false);
        Check.is("tomorrow", pit.right(0, 2, 5), false);
        Check.is("it had none", pit.right(1, 0, 5), false);
        Check.is("as it was", pit.settle(0, 0, 1), 100);
        Check.is("on day 0 no day is over", new Pit().right(0, 0, 5), false);
    }

    private static void hundredPutRight() {
        Pit pit = traded();
        pit.right(1, 0, 5);
        for (int i = 0; i < 100; i++) {
            Check.is("right " + i, pit.right(0, 0, 200 + i), true);
        }
        Check.is("the 101st", pit.right(0, 0, 50), false);
        Check.is("as it was", pit.settle(0, 0, 1), 299);
        pit.night();
        Check.is("the 101st, a day later", pit.right(0, 1, 50), false);
    }

    private static void settleAsKnown() {
        Pit pit = traded();
        Check.deal(pit, 0, 1, 0, 1, 105);
        pit.night();
        pit.night();
        pit.right(0, 0, 90);
        pit.night();
        pit.night();
        pit.right(0, 0, 80);
        pit.right(0, 1, 70);
        pit.right(0, 0, 81);
        pit.night();
        int[] dayZero = {100, 100, 100, 90, 90, 81, 81};
        for (int known = 0; known <= 6; known++) {
            Check.is("day 0 as known on " + known, pit.settle(0, 0, known), dayZero[known]);
        }
        int[] dayOne = {105, 105, 105, 105, 70, 70};
        for (int known = 1; known <= 6; known++) {
            Check.is("day 1 as known on " + known, pit.settle(0, 1, known), dayOne[known - 1]);
        }
        Check.is("a copied one", pit.settle(0, 2, 6), 105);
        Check.is("a copied one", pit.settle(0, 5, 6), 105);
        Check.is("put a copied one right", pit.right(0, 3, 60), true);
        Check.is("then", pit.settle(0, 3, 6), 60);
        Check.is("its day's own", pit.settle(0, 3, 5), 105);
        Check.is("its neighbour", pit.settle(0, 4, 6), 105);
    }

    private static void settleRefuses() {
        Pit pit = traded();
        pit.night();
        Check.is("month 6", pit.settle(6, 0, 0), GrainPit.NONE);
        Check.is("month -1", pit.settle(-1, 0, 0), GrainPit.NONE);
        Check.is("day -1", pit.settle(0, -1, 0), GrainPit.NONE);
        Check.is("today", pit.settle(0, 2, 2), GrainPit.NONE);
        Check.is("known ahead of the day", pit.settle(0, 1, 0), GrainPit.NONE);
        Check.is("known tomorrow", pit.settle(0, 1, 3), GrainPit.NONE);
        Check.is("known on its day", pit.settle(0, 1, 1), 100);
        Check.is("known today", pit.settle(0, 1, 2), 100);
        Check.is("without one", pit.settle(1, 0, 0), GrainPit.NONE);
    }

    private static void equityAsItWas() {
        Pit pit = traded();
        pit.pay(0, 500);
        Check.deal(pit, 0, 2, 3, 4, 30);
        Check.deal(pit, 2, 0, 0, 1, 130);
        pit.night();
        pit.pay(0, -9999);
        Check.deal(pit, 1, 0, 0, 1, 150);
        pit.night();
        Check.is("day 0", pit.equity(0, 0, 0), 10000);
        Check.is("day 0, known today", pit.equity(0, 0, 3), 10000);
        // day 1: paid 10500, bought 2 at 100, sold 1 at 130, SETTLE 130; month 3 at cost
        Check.is("day 1", pit.equity(0, 1, 1), 10500 + 60);
        Check.is("day 1 of 1", pit.equity(1, 1, 1), 10000 - 60);
        Check.is("day 1 of 2", pit.equity(2, 1, 2), 10000);
        // day 2: 1 bought one at 150 back
        Check.is("day 2", pit.equity(0, 2, 2), 501 - 200 + 130 + 150);
        Check.is("day 2 of 1", pit.equity(1, 2, 3), 10000 + 200 - 150 - 150);
        Check.is("day 2 of 2", pit.equity(2, 2, 3), 10000 - 130 + 150);
        Check.is("as now", pit.money(0, 1), 501 + 80);
    }

    private static void equityAsKnown() {
        Pit pit = traded();
        pit.night();
        pit.right(0, 0, 90);
        pit.night();
        pit.right(0, 0, 70);
        Check.is("known on 0", pit.equity(0, 0, 0), 10000);
        Check.is("known on 1", pit.equity(0, 0, 1), 10000);
        Check.is("known on 2", pit.equity(0, 0, 2), 10000 - 20);
        Check.is("known on 3", pit.equity(0, 0, 3), 10000 - 60);
        Check.is("known on 3, of the short", pit.equity(1, 0, 3), 10000 + 60);
        Check.is("without a position", pit.equity(2, 0, 3), 10000);
        Check.is("day 1 is not put right", pit.equity(0, 1, 3), 10000);
        Check.is("nor is the latest", pit.money(0, 1), 10000);
        // a strike today leaves the days that are over as they were
        pit.strike(0);
        Check.is("known on 3", pit.equity(0, 0, 3), 10000 - 60);
    }

    private static void equityBehindADefault() {
        // the day's end closes the position at its SETTLE: what is put right later does not touch it
        Pit pit = Check.withMembers(2);
        Check.tell(pit, "keep from 0 is 10; first from 0 is 10;");
        pit.pay(1, 1000);
        Check.deal(pit, 0, 1, 0, 2, 100);
        pit.night();
        Check.is("default", pit.night(), 1);
        pit.right(0, 0, 90);
        pit.right(0, 1, 90);
        Check.is("day 0: two lots", pit.equity(0, 0, 2), -20);
        Check.is("day 1: closed", pit.equity(0, 1, 2), 0);
        Check.is("day 1 of the other", pit.equity(1, 1, 2), 1000);
    }

    private static void equityOfALaterMember() {
        Pit pit = traded();
        Check.is("member", pit.member(), 3);
        pit.pay(3, 777);
        Check.deal(pit, 3, 0, 0, 1, 100);
        Check.is("ahead of it", pit.equity(3, 0, 1), 0);
        pit.night();
        Check.is("ahead of it", pit.equity(3, 0, 2), 0);
        Check.is("on its day", pit.equity(3, 1, 2), 777);
    }

    private static void equityRefuses() {
        Pit pit = traded();
        pit.night();
        Check.isMissing("member 3", () -> pit.equity(3, 0, 0));
        Check.isMissing("member -1", () -> pit.equity(-1, 0, 0));
        Check.isMissing("day -1", () -> pit.equity(0, -1, 0));
        Check.isMissing("today", () -> pit.equity(0, 2, 2));
        Check.isMissing("known ahead of the day", () -> pit.equity(0, 1, 0));
        Check.isMissing("known tomorrow", () -> pit.equity(0, 1, 3));
        Check.is("known today", pit.equity(0, 1, 2), 10000);
    }
}
