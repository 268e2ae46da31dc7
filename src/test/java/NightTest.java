/** Promise 14: the day's end, its SETTLES, calls and defaults. */
public final class NightTest {
    private NightTest() {
    }

    public static void main(String[] args) {
        daysPass();
        ordersAreGone();
        settlesByTheLatestTrade();
        settlesAreCopied();
        copiesKnowWhatWasPutRight();
        callAndFall();
        callAndPay();
        calledGoesByFirstAlone();
        edgesOfTheCall();
        rulesOfTheDayThatEnds();
        needKnowsItsWords();
        defaultGoesByTurns();
        defaultOfAShort();
        defaultInManyMonths();
        memberByMember();
        defaultedTakesNoPart();
        Check.finish("NightTest");
    }

    private static void daysPass() {
        Pit pit = Check.withMembers(1);
        for (int day = 0; day < 150; day++) {
            Check.is("today", pit.count(0), day);
            Check.is("night", pit.night(), 0);
        }
        pit.order(0, true, 0, 50, 1);
        Check.is("today", pit.count(0), 150);
        Check.is("night of day 150", pit.night(), GrainPit.NONE);
        Check.is("today stays", pit.count(0), 150);
        Check.is("orders stay", pit.count(3), 1);
        Check.is("settle of the last day", pit.settle(0, 149, 150), GrainPit.NONE);
    }

    private static void ordersAreGone() {
        Pit pit = Check.withMembers(2);
        pit.order(0, true, 0, 50, 1);
        pit.order(1, false, 5, 50, 1);
        pit.night();
        Check.is("none waits", pit.count(3), 0);
        Check.is("no bid", pit.waiting(true, 0, 0, 0), GrainPit.NONE);
        Check.is("no offer", pit.waiting(false, 5, 0, 0), GrainPit.NONE);
        Check.is("none to cancel", pit.cancel(0, 0), GrainPit.NONE);
        Check.is("nothing to fill from", pit.order(0, true, 5, 50, 1), 0);
    }

    private static void settlesByTheLatestTrade() {
        Pit pit = Check.withMembers(2);
        pit.pay(0, 1000);
        pit.pay(1, 1000);
        Check.deal(pit, 0, 1, 0, 1, 50);
        Check.deal(pit, 0, 1, 1, 1, 70);
        Check.deal(pit, 1, 0, 0, 1, 53);
        Check.deal(pit, 1, 0, 0, 1, 57);
        Check.deal(pit, 1, 0, 2, 1, 90);
        Check.is("strike", pit.strike(3), true);
        Check.is("strike the only one", pit.strike(4), true);
        pit.night();
        Check.is("the latest that is not struck", pit.settle(0, 0, 0), 53);
        Check.is("month 1", pit.settle(1, 0, 0), 70);
        Check.is("only a struck one", pit.settle(2, 0, 0), GrainPit.NONE);
        Check.is("no trade", pit.settle(3, 0, 0), GrainPit.NONE);
        pit.order(0, false, 0, 60, 1);
        pit.order(0, true, 0, 59, 1);
        Check.deal(pit, 0, 1, 1, 1, 71);
        pit.deliver(1);
        pit.night();
        Check.is("orders alone make none", pit.settle(0, 1, 1), 53);
        Check.is("a closed month's trade counts", pit.settle(1, 1, 1), 71);
        Check.is("strike of an earlier day's", pit.strike(2), true);
        pit.night();
        Check.is("SETTLE as it was", pit.settle(0, 2, 2), 53);
    }

    private static void settlesAreCopied() {
        Pit pit = Check.withMembers(2);
        pit.night();
        Check.deal(pit, 0, 1, 0, 1, 50);
        pit.night();
        pit.night();
        pit.night();
        Check.is("day 0", pit.settle(0, 0, 4), GrainPit.NONE);
        Check.is("day 1", pit.settle(0, 1, 1), 50);
        Check.is("day 2", pit.settle(0, 2, 2), 50);
        Check.is("day 3", pit.settle(0, 3, 3), 50);
    }

    private static void copiesKnowWhatWasPutRight() {
        Pit pit = Check.withMembers(2);
        Check.deal(pit, 0, 1, 0, 1, 50);
        pit.night();
        pit.night();
        Check.is("put right", pit.right(0, 0, 80), true);
        pit.night();
        Check.is("a copy of day 1, not of day 0", pit.settle(0, 2, 2), 50);
        Check.is("put right", pit.right(0, 2, 90), true);
        pit.night();
        Check.is("a copy of what is known now", pit.settle(0, 3, 3), 90);
        Check.is("put right", pit.right(0, 2, 95), true);
        Check.is("the copy stays", pit.settle(0, 3, 4), 90);
        Check.is("day 1 stays", pit.settle(0, 1, 4), 50);
    }

    private static Pit margined(String text) {
        Pit pit = Check.withMembers(3);
        Check.is("rules", Check.tell(pit, text) > 0, true);
        pit.pay(1, 100000);
        pit.pay(2, 100000);
        return pit;
    }

    private static void callAndFall() {
        Pit pit = margined("keep from 0 is 10; first from 0 is 15;");
        Check.deal(pit, 0, 1, 0, 2, 100);
        pit.pay(0, 19);
        Check.is("not called ahead", pit.money(0, 2), 0);
        Check.is("first night", pit.night(), 0);
        Check.is("called", pit.money(0, 2), 1);
        Check.is("not in default", pit.money(0, 3), 0);
        pit.pay(0, 10);
        Check.is("29 against 30", pit.night(), 1);
        Check.is("in default", pit.money(0, 3), 1);
        Check.is("not called any more", pit.money(0, 2), 0);
        Check.is("position", pit.position(0, 0), 0);
        Check.is("position", pit.position(1, 0), 0);
        Check.is("worth", pit.money(0, 1), 29);
        Check.is("no trade is numbered", pit.count(2), 1);
        Check.is("no LONG", pit.longOf(0, 0, 0), GrainPit.NONE);
        Check.is("once", pit.night(), 0);
    }

    private static void callAndPay() {
        Pit pit = margined("keep from 0 is 10; first from 0 is 15;");
        Check.deal(pit, 0, 1, 0, 2, 100);
        pit.night();
        Check.is("called", pit.money(0, 2), 1);
        pit.pay(0, 30);
        Check.is("30 reaches first", pit.night(), 0);
        Check.is("not called", pit.money(0, 2), 0);
        pit.pay(0, -10);
        Check.is("20 reaches keep", pit.night(), 0);
        Check.is("not called", pit.money(0, 2), 0);
        pit.pay(0, -1);
        Check.is("19", pit.night(), 0);
        Check.is("called anew", pit.money(0, 2), 1);
        pit.pay(0, 1);
        Check.is("20, by first", pit.night(), 1);
    }

    private static void calledGoesByFirstAlone() {
        // keep above first: one that was called and reaches first is free, though below keep
        Pit pit = margined("keep from 0 is 20; first from 0 is 10;");
        Check.deal(pit, 0, 1, 0, 1, 100);
        pit.pay(0, 15);
        Check.is("night", pit.night(), 0);
        Check.is("called", pit.money(0, 2), 1);
        Check.is("night", pit.night(), 0);
        Check.is("not called any more", pit.money(0, 2), 0);
        Check.is("night", pit.night(), 0);
        Check.is("called anew", pit.money(0, 2), 1);
    }

    private static void edgesOfTheCall() {
        Pit pit = Check.withMembers(2);
        Check.is("worth 0 against 0", pit.night(), 0);
        Check.is("not called", pit.money(0, 2), 0);
        pit.pay(0, -1);
        pit.night();
        Check.is("below 0 without a position", pit.money(0, 2), 1);
        Check.is("default without a position", pit.night(), 1);
        Check.is("a rule below 0 counts 0", Check.tell(pit, "keep from 0 is -5; first from 0 is 0 - 5;"), 2);
        Check.deal(pit, 1, 1, 0, 1, 100);
        Pit other = Check.withMembers(2);
        Check.tell(other, "keep from 0 is -5;");
        Check.deal(other, 0, 1, 0, 3, 100);
        Check.is("NEED by keep", other.money(0, 5), 0);
        other.pay(0, -1);
        other.night();
        Check.is("-1 against 0", other.money(0, 2), 1);
        Check.is("0 against 0", other.money(1, 2), 0);
    }

    private static void rulesOfTheDayThatEnds() {
        Pit pit = margined("keep from 1 is 10;");
        Check.deal(pit, 0, 1, 0, 1, 100);
        pit.night();
        Check.is("day 0: no rule yet", pit.money(0, 2), 0);
        pit.night();
        Check.is("day 1: in force", pit.money(0, 2), 1);
    }

    private static void needKnowsItsWords() {
        Pit pit = margined("keep from 0 is day * 1000 + month * 100 + price + lots + grade + place;");
        Check.deal(pit, 0, 1, 2, 3, 50);
        Check.deal(pit, 1, 0, 4, 2, 60);
        long need = 3 * (200 + 50 + 3) + 2 * (400 + 60 + 2);
        pit.pay(0, (int) need);
        pit.night();
        Check.is("reaches", pit.money(0, 2), 0);
        pit.pay(0, 5 * 1000 - 1);
        pit.night();
        Check.is("one less on day 1", pit.money(0, 2), 1);
        // by the new SETTLE
        Pit other = margined("keep from 0 is price;");
        Check.deal(other, 0, 1, 0, 1, 50);
        other.night();
        other.pay(0, 69);
        Check.deal(other, 2, 1, 0, 1, 60);
        other.night();
        Check.is("69 + 60 - 50 against 60", other.money(0, 2), 0);
        other.pay(0, -20);
        other.night();
        Check.is("59 against 60", other.money(0, 2), 1);
    }

    private static void defaultGoesByTurns() {
        // 2 is long 7; short: 0 has 1, 1 has 2, 3 has 4
        Pit pit = Check.withMembers(5);
        for (int i = 0; i < 5; i++) {
            pit.pay(i, i == 2 ? 0 : 10000);
        }
        Check.tell(pit, "keep from 0 is 11; first from 0 is 11;");
        Check.deal(pit, 2, 0, 0, 1, 100);
        Check.deal(pit, 2, 1, 0, 2, 100);
        Check.deal(pit, 4, 1, 0, 1, 100);
        Check.deal(pit, 2, 3, 0, 4, 100);
        Check.deal(pit, 4, 3, 0, 2, 100);
        pit.night();
        Check.deal(pit, 4, 0, 0, 1, 110);
        // short now: 0 has 2, 1 has 3, 3 has 6; turns of 7 lots: 3 0 1 3 0 1 3
        Check.is("night", pit.night(), 1);
        Check.is("position of 0", pit.position(0, 0), 0);
        Check.is("position of 1", pit.position(1, 0), -1);
        Check.is("position of 2", pit.position(2, 0), 0);
        Check.is("position of 3", pit.position(3, 0), -3);
        Check.is("position of 4", pit.position(4, 0), 4);
        Check.is("at SETTLE", pit.money(2, 1), 70);
        Check.is("worth of 3", pit.money(3, 1), 10000 - 60);
        Check.is("LONGS of 4 stay in order", pit.longOf(0, 0, 1), 1);
        Check.is("LONGS of 4 stay in order", pit.longOf(0, 1, 1), 2);
        Check.is("LONGS of 4 stay in order", pit.longOf(0, 2, 1), 1);
        Check.is("no more LONGS", pit.longOf(0, 3, 1), GrainPit.NONE);
    }

    private static void defaultOfAShort() {
        Pit pit = Check.withMembers(4);
        for (int i = 0; i < 3; i++) {
            pit.pay(i, 10000);
        }
        Check.tell(pit, "keep from 0 is 11; first from 0 is 11;");
        Check.deal(pit, 1, 3, 0, 4, 100);
        Check.deal(pit, 0, 3, 0, 1, 100);
        Check.deal(pit, 2, 3, 0, 2, 100);
        Check.deal(pit, 2, 1, 0, 1, 90);
        pit.night();
        // 3 is short 7; long: 0 has 1, 1 has 3, 2 has 3; turns: 0 1 2 1 2 1 2
        Check.is("night", pit.night(), 1);
        for (int i = 0; i < 4; i++) {
            Check.is("position of " + i, pit.position(i, 0), 0);
        }
        Check.is("no LONG", pit.longOf(0, 0, 0), GrainPit.NONE);
        Check.is("worth of 3", pit.money(3, 1), 70);
        Check.is("worth of 2", pit.money(2, 1), 10000 - 20);
    }

    private static void defaultInManyMonths() {
        Pit pit = Check.withMembers(4);
        for (int i = 1; i < 4; i++) {
            pit.pay(i, 10000);
        }
        Check.tell(pit, "keep from 0 is 10; first from 0 is 10;");
        Check.deal(pit, 0, 1, 0, 3, 100);
        Check.deal(pit, 3, 2, 0, 2, 100);
        Check.deal(pit, 1, 0, 3, 3, 50);
        Check.deal(pit, 2, 3, 3, 3, 50);
        pit.night();
        Check.is("night", pit.night(), 1);
        Check.is("month 0: 1 2 1", pit.position(1, 0), -1);
        Check.is("month 0: 1 2 1", pit.position(2, 0), -1);
        // in each month the turns begin behind the one in default: 1 2 1 again, not 2 1 2
        Check.is("month 3", pit.position(1, 3), 1);
        Check.is("month 3", pit.position(2, 3), 2);
        Check.is("month 3", pit.position(3, 3), -3);
        Check.is("the one in default", pit.position(0, 0), 0);
        Check.is("the one in default", pit.position(0, 3), 0);
    }

    private static void memberByMember() {
        // 0 falls first and takes 1's position with it, so 1 reaches its NEED
        Pit pit = Check.withMembers(3);
        Check.tell(pit, "keep from 0 is 10; first from 0 is 10;");
        Check.deal(pit, 0, 1, 0, 1, 100);
        pit.night();
        Check.is("both are called", pit.money(0, 2) + pit.money(1, 2), 2);
        Check.is("one falls", pit.night(), 1);
        Check.is("0", pit.money(0, 3), 1);
        Check.is("1", pit.money(1, 3), 0);
        Check.is("1 is not called", pit.money(1, 2), 0);
        // with positions left for both, both fall
        Pit two = Check.withMembers(3);
        two.pay(2, 1000);
        Check.tell(two, "keep from 0 is 10; first from 0 is 10;");
        Check.deal(two, 0, 2, 0, 1, 100);
        Check.deal(two, 1, 2, 0, 1, 100);
        two.night();
        Check.is("both fall", two.night(), 2);
    }

    private static void defaultedTakesNoPart() {
        Pit pit = Check.withMembers(2);
        pit.pay(0, -5);
        pit.night();
        Check.is("falls", pit.night(), 1);
        Check.is("not again", pit.night(), 0);
        Check.is("not called", pit.money(0, 2), 0);
        Check.is("may still pay", pit.pay(0, 10), 5);
        Check.is("stays in default", pit.money(0, 3), 1);
        Check.is("night", pit.night(), 0);
        Check.is("stays in default", pit.money(0, 3), 1);
    }
}
