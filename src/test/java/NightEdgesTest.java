/** The boundary cases of promise 14 and of the day's end in Terms 3, each by the sentence that names it. */
public final class NightEdgesTest {
    private NightEdgesTest() {
    }

    public static void main(String[] args) {
        atMostDay150();
        allWaitingOrdersAreGone();
        theLatestTradeOfTheDay();
        struckOnesNot();
        noneIfThereWasNone();
        nobodyToFall();
        belowNeedByKeep();
        belowNeedByFirst();
        onlyOneThatIsCalled();
        notCalledAnyMore();
        needBelowNought();
        needsBeyondInts();
        needIsByTheNewSettle();
        behindItselfRound();
        whosePositionIsOfTheOtherSign();
        oneLotAtATime();
        monthByMonth();
        tradesNoMore();
        howManyCameIntoDefault();
        memberByMemberFromNoughtOn();
        Check.finish("NightEdgesTest");
    }

    /** "DAYS 0, 1, .., at most 150"; "NONE: it is DAY 150". */
    private static void atMostDay150() {
        Pit pit = Check.withMembers(2);
        Check.is("a new object", pit.count(0), 0);
        for (int day = 1; day <= 150; day++) {
            Check.is("night", pit.night(), 0);
            Check.is("today", pit.count(0), day);
        }
        Check.deal(pit, 0, 1, 0, 1, 100);
        Check.is("DAY of a TRADE on the last", pit.trade(0, 5), 150);
        pit.order(0, true, 1, 50, 1);
        pit.pay(0, -1);
        Check.is("the last has no night", pit.night(), GrainPit.NONE);
        Check.is("nor when asked again", pit.night(), GrainPit.NONE);
        Check.is("it is today", pit.count(0), 150);
        Check.is("ORDERS wait yet", pit.count(3), 1);
        Check.is("nobody is CALLED", pit.money(0, 2), 0);
        Check.is("it has no SETTLE", pit.settle(0, 150, 150), GrainPit.NONE);
        Check.is("EQUITY is by none", pit.money(0, 1), -101);
    }

    private static void allWaitingOrdersAreGone() {
        Pit none = Check.withMembers(1);
        Check.is("none wait", none.night() + none.count(3), 0);
        Pit full = Scenes.waiting(120);
        Check.is("120 wait", full.count(3), 120);
        full.night();
        Check.is("none waits", full.count(3), 0);
        for (int month = 0; month < 6; month++) {
            Check.is("no bid", full.waiting(true, month, 0, 0), GrainPit.NONE);
            Check.is("no offer", full.waiting(false, month, 0, 0), GrainPit.NONE);
            Check.is("nothing to be filled from", full.order(0, true, month, 10000, 1), 0);
        }
    }

    /** "SETTLE of each MONTH: the PRICE of the latest TRADE of the day in it". */
    private static void theLatestTradeOfTheDay() {
        Pit pit = Check.withMembers(2);
        for (int month = 0; month < 6; month++) {
            Check.deal(pit, 0, 1, month, 1, 10000);
            Check.deal(pit, 0, 1, month, 1, month == 0 ? 1 : 9995 + month);
        }
        // two TRADES of one ORDER: the latter's PRICE
        pit.order(1, false, 5, 9000, 1);
        pit.order(1, false, 5, 9001, 1);
        Check.is("over both", pit.order(0, true, 5, 9001, 2), 2);
        pit.pay(0, 1000000);
        pit.night();
        int[] due = {1, 9996, 9997, 9998, 9999, 9001};
        for (int month = 0; month < 6; month++) {
            Check.is("SETTLE of " + month, pit.settle(month, 0, 0), due[month]);
        }
        Check.deal(pit, 0, 1, 1, 1, 10000);
        pit.night();
        Check.is("of the day alone", pit.settle(0, 1, 1), 1);
        Check.is("as it was", pit.settle(2, 1, 1), 9997);
        Check.is("a new one", pit.settle(1, 1, 1), 10000);
    }

    /** "(struck ones not)". */
    private static void struckOnesNot() {
        Pit pit = Check.withMembers(2);
        Check.deal(pit, 0, 1, 0, 1, 100);
        Check.deal(pit, 0, 1, 0, 1, 101);
        Check.deal(pit, 0, 1, 0, 1, 102);
        pit.strike(2);
        pit.strike(0);
        pit.night();
        Check.is("the latest of those left", pit.settle(0, 0, 0), 101);
        Check.deal(pit, 0, 1, 0, 1, 103);
        Check.deal(pit, 0, 1, 0, 1, 104);
        pit.strike(3);
        pit.strike(4);
        pit.night();
        Check.is("all of the day: as it was", pit.settle(0, 1, 1), 101);
        Check.is("an earlier day's", pit.strike(1), true);
        pit.night();
        Check.is("SETTLE stays that of its day", pit.settle(0, 0, 3), 101);
        Check.is("and of those behind", pit.settle(0, 2, 2), 101);
    }

    /** "else as it was (none if there was none)". */
    private static void noneIfThereWasNone() {
        Pit pit = Check.withMembers(2);
        pit.night();
        Check.deal(pit, 0, 1, 0, 1, 100);
        pit.strike(0);
        pit.order(0, true, 1, 100, 1);
        pit.night();
        for (int month = 0; month < 6; month++) {
            Check.is("none", pit.settle(month, 0, 2), GrainPit.NONE);
            Check.is("none by a struck one, none by an ORDER", pit.settle(month, 1, 2), GrainPit.NONE);
        }
        Check.deal(pit, 0, 1, 5, 1, 1);
        pit.night();
        pit.night();
        Check.is("none ahead", pit.settle(5, 1, 4), GrainPit.NONE);
        Check.is("the first", pit.settle(5, 2, 4), 1);
        Check.is("as it was", pit.settle(5, 3, 4), 1);
    }

    private static void nobodyToFall() {
        Pit pit = new Pit();
        Check.is("without MEMBERS", pit.night(), 0);
        Check.is("DAY 1", pit.count(0), 1);
        pit.member();
        Check.is("EQUITY 0, NEED 0", pit.night(), 0);
        Check.is("not CALLED", pit.money(0, 2), 0);
    }

    /** 0 has lots of 1 (or 1 of 0) at SETTLE 100, so EQUITY is what is paid. */
    private static Pit holding(int lots, String rules) {
        Pit pit = Check.withMembers(2);
        Check.is("rules", Check.tell(pit, rules) > 0, true);
        pit.pay(1, 1000000);
        Check.deal(pit, lots > 0 ? 0 : 1, lots > 0 ? 1 : 0, 0, Math.abs(lots), 100);
        return pit;
    }

    /** "if EQUITY is below NEED by keep: CALLED; else not": a step on either side. */
    private static void belowNeedByKeep() {
        for (int lots : new int[] {-50, -1, 1, 50}) {
            for (int step = -1; step <= 1; step++) {
                Pit pit = holding(lots, "keep from 0 is 10; first from 0 is 10;");
                pit.pay(0, 10 * Math.abs(lots) + step);
                Check.is("nobody falls", pit.night(), 0);
                Check.is(lots + " lots, " + step + " beside NEED", pit.money(0, 2), step < 0 ? 1 : 0);
                Check.is("the other is not CALLED", pit.money(1, 2), 0);
            }
        }
        for (int paid = -1; paid <= 1; paid++) {
            Pit pit = Check.withMembers(1);
            pit.pay(0, paid);
            pit.night();
            Check.is(paid + " without a POSITION", pit.money(0, 2), paid < 0 ? 1 : 0);
        }
    }

    /** "One that is CALLED and whose EQUITY is below NEED by first: DEFAULT": a step on either side. */
    private static void belowNeedByFirst() {
        for (int lots : new int[] {-50, -1, 1, 50}) {
            for (int step = -1; step <= 1; step++) {
                Pit pit = holding(lots, "keep from 0 is 10; first from 0 is 15;");
                pit.night();
                Check.is("CALLED", pit.money(0, 2), 1);
                pit.pay(0, 15 * Math.abs(lots) + step);
                Check.is(lots + " lots, " + step + " beside NEED", pit.night(), step < 0 ? 1 : 0);
                Check.is("in DEFAULT", pit.money(0, 3), step < 0 ? 1 : 0);
                Check.is("not CALLED any more", pit.money(0, 2), 0);
                Check.is("POSITION", pit.position(0, 0), step < 0 ? 0 : lots);
            }
        }
    }

    /** "One that is CALLED (since a day end ahead)". */
    private static void onlyOneThatIsCalled() {
        Pit pit = holding(1, "keep from 0 is 10; first from 0 is 15;");
        pit.pay(0, -1000000);
        Check.is("the day end that CALLS it", pit.night(), 0);
        Check.is("far below both, CALLED alone", pit.money(0, 2), 1);
        Check.is("not in DEFAULT", pit.money(0, 3), 0);
        Check.is("the next", pit.night(), 1);
        for (int paid : new int[] {10, 14}) {
            Pit kept = holding(1, "keep from 0 is 10; first from 0 is 15;");
            kept.pay(0, paid);
            for (int night = 0; night < 3; night++) {
                Check.is("below first, not CALLED", kept.night(), 0);
                Check.is("nor CALLED then", kept.money(0, 2), 0);
            }
        }
    }

    /** "else not CALLED any more (nor if CALLED and EQUITY reaches NEED by first)". */
    private static void notCalledAnyMore() {
        // keep 20 is above first 10: between them one is CALLED every other day
        for (int paid = 9; paid <= 20; paid++) {
            Pit pit = holding(1, "keep from 0 is 20; first from 0 is 10;");
            pit.pay(0, paid);
            pit.night();
            Check.is(paid + " is CALLED below 20", pit.money(0, 2), paid < 20 ? 1 : 0);
            Check.is(paid + " falls below 10", pit.night(), paid < 10 ? 1 : 0);
            Check.is(paid + " is not CALLED any more", pit.money(0, 2), 0);
            pit.night();
            Check.is(paid + " is CALLED anew", pit.money(0, 2), paid >= 10 && paid < 20 ? 1 : 0);
        }
    }

    /** "(keep; 0 if that is below 0)". */
    private static void needBelowNought() {
        for (String below : new String[] {"-1", "0", "-999999", "65536 * 32768", "65536 * 65536"}) {
            Pit pit = holding(3, "keep from 0 is " + below + "; first from 0 is " + below + ";");
            pit.night();
            Check.is("0 reaches " + below, pit.money(0, 2), 0);
            pit.pay(0, -1);
            pit.night();
            Check.is("-1 does not", pit.money(0, 2), 1);
            pit.pay(0, 1);
            Check.is("0 reaches it by first", pit.night(), 0);
            Check.is("and is not CALLED", pit.money(0, 2), 0);
            pit.pay(0, -1);
            pit.night();
            Check.is("-1 falls", pit.night(), 1);
        }
        // each MONTH by itself: what is below 0 in one takes nothing from another
        Pit two = holding(1, "keep from 0 is month = 0 ? 10 : -10;");
        Check.deal(two, 0, 1, 1, 1, 100);
        two.pay(0, 9);
        two.night();
        Check.is("9 against 10", two.money(0, 2), 1);
    }

    /** The greatest that a rule can come to, times lots: NEED is no int. */
    private static void needsBeyondInts() {
        Pit pit = holding(50, "keep from 0 is 65536 * 32768 - 1; first from 0 is 65536 * 32768 - 1;");
        pit.pay(0, 1000000);
        Check.is("NEED", pit.money(0, 5), 50L * Integer.MAX_VALUE);
        Check.is("nobody falls", pit.night(), 0);
        Check.is("CALLED", pit.money(0, 2), 1);
        Check.is("both are CALLED, then 0 falls and 1 has no POSITION", pit.night(), 1);
        Check.is("1 is not CALLED any more", pit.money(1, 2), 0);
    }

    /** "WORDS day, month, price: the new SETTLE, lots: the size". */
    private static void needIsByTheNewSettle() {
        for (int step = -1; step <= 0; step++) {
            Pit pit = holding(-2, "keep from 0 is day * 1000 + month * 100 + price + lots * 7 + grade + place;");
            pit.pay(0, 2 * (100 + 14));
            pit.night();
            Check.is("reached on day 0", pit.money(0, 2), 0);
            Check.deal(pit, 1, 0, 0, 1, 90);
            // short 3: 2 at 100, 1 at 90; SETTLE 90: 20 won; NEED 3 * (1000 + 90 + 21)
            pit.pay(0, 3 * (1000 + 90 + 21) - 20 - 2 * (100 + 14) + step);
            pit.night();
            Check.is(step + " beside NEED", pit.money(0, 2), step < 0 ? 1 : 0);
        }
    }

    /** Members long (above 0) or short in month 0 as told, the last MEMBER makes up for it; one of them is to fall. */
    private static Pit standing(int falls, int... lots) {
        Pit pit = Check.withMembers(lots.length + 1);
        for (int i = 0; i < lots.length; i++) {
            if (lots[i] > 0) {
                Check.deal(pit, i, lots.length, 0, lots[i], 100);
            } else if (lots[i] < 0) {
                Check.deal(pit, lots.length, i, 0, -lots[i], 100);
            }
        }
        pit.night();
        pit.pay(falls, -1);
        pit.night();
        Check.is("one falls", pit.night(), 1);
        Check.is("the one", pit.money(falls, 3), 1);
        Check.is("at SETTLE, so EQUITY stays", pit.money(falls, 1), -1);
        return pit;
    }

    private static void arePositions(Pit pit, int... due) {
        for (int i = 0; i < due.length; i++) {
            Check.is("POSITION of " + i, pit.position(i, 0), due[i]);
        }
    }

    /** "with the next MEMBER behind the one before (at first behind itself, round)". */
    private static void behindItselfRound() {
        // the last MEMBER has 0: nobody but those told
        arePositions(standing(1, -2, 1, 2, -1), -2, 0, 2, 0, 0);
        arePositions(standing(3, -1, -1, 0, 2), 0, 0, 0, 0, 0);
        arePositions(standing(3, -2, -1, 0, 2, 1), -1, 0, 0, 0, 1, 0);
        arePositions(standing(3, -3, -1, 1, 3), -1, 0, 1, 0, 0);
        arePositions(standing(0, 1, -1, -1, 1), 0, 0, -1, 1, 0);
        arePositions(standing(0, -1, 0, 0, 1), 0, 0, 0, 0, 0);
        // behind the last comes the first, and the one that falls is passed by
        arePositions(standing(2, -3, 0, 3, 0), 0, 0, 0, 0, 0);
        arePositions(standing(4, 5, 0, 0, 0, -4, -1), 1, 0, 0, 0, 0, -1, 0);
    }

    /** ".. whose POSITION is of the other sign": not one with none, nor of its own sign, nor one that has no more. */
    private static void whosePositionIsOfTheOtherSign() {
        arePositions(standing(0, 4, 1, -1, 0, -5, 1), 0, 1, 0, 0, -2, 1, 0);
        arePositions(standing(0, -4, -1, 1, 0, 5, -1), 0, -1, 0, 0, 2, -1, 0);
        arePositions(standing(2, -1, -2, 6, -3), 0, 0, 0, 0, 0);
        // the last MEMBER's own POSITION is the only one of the other sign
        arePositions(standing(0, 50, 1, 0), 0, 1, 0, -1);
        arePositions(standing(0, -50, -1, 0), 0, -1, 0, 1);
    }

    /** "one lot at a time": with three shorts of many lots each has a turn. */
    private static void oneLotAtATime() {
        arePositions(standing(0, 1, -10, -10, -10, 29), 0, -9, -10, -10, 29, 0);
        arePositions(standing(0, 2, -10, -10, -10, 28), 0, -9, -9, -10, 28, 0);
        arePositions(standing(0, 3, -10, -10, -10, 27), 0, -9, -9, -9, 27, 0);
        arePositions(standing(0, 4, -10, -10, -10, 26), 0, -8, -9, -9, 26, 0);
        arePositions(standing(0, 30, -10, -10, -10), 0, 0, 0, 0, 0);
        // LONGS: a lot at a time from the earliest of each
        Pit pit = Check.withMembers(4);
        Check.deal(pit, 1, 0, 0, 1, 100);
        Check.deal(pit, 2, 0, 0, 1, 100);
        Check.deal(pit, 1, 0, 0, 2, 100);
        Check.deal(pit, 2, 3, 0, 5, 100);
        pit.night();
        pit.pay(0, -1);
        pit.night();
        pit.night();
        // 0 was short 4: by 1, 2, 1, 2
        Check.is("the first LONG", pit.longOf(0, 0, 0), 1);
        Check.is("its lots", pit.longOf(0, 0, 1), 1);
        Check.is("the next", pit.longOf(0, 1, 0), 2);
        Check.is("its lots", pit.longOf(0, 1, 1), 4);
        Check.is("no more", pit.longOf(0, 2, 0), GrainPit.NONE);
    }

    /** "MONTH by MONTH, as long as it has a POSITION". */
    private static void monthByMonth() {
        Pit pit = Check.withMembers(3);
        for (int month = 0; month < 6; month++) {
            boolean buys = month % 2 == 0;
            Check.deal(pit, buys ? 0 : 1, buys ? 1 : 0, month, 1 + month, 100 + month);
            Check.deal(pit, buys ? 2 : 1, buys ? 1 : 2, month, 1, 100 + month);
        }
        pit.night();
        pit.pay(0, -1);
        pit.night();
        Check.is("0 falls", pit.night(), 1);
        for (int month = 0; month < 6; month++) {
            int left = month % 2 == 0 ? 1 : -1;
            Check.is("no POSITION in " + month, pit.position(0, month), 0);
            Check.is("the other's", pit.position(1, month), -left);
            Check.is("the third's", pit.position(2, month), left);
        }
        Check.is("at each SETTLE", pit.money(0, 1), -1);
        Check.is("none is numbered", pit.count(2), 12);
    }

    /** "It trades no more, and is not CALLED any more". */
    private static void tradesNoMore() {
        Pit pit = standing(0, 2, -2);
        Check.is("not CALLED", pit.money(0, 2), 0);
        Check.is("no ORDER", pit.order(0, true, 5, 100, 1), -3);
        Check.is("its TRADE stays", pit.strike(0), false);
        for (int night = 0; night < 3; night++) {
            Check.is("it falls once", pit.night(), 0);
            Check.is("not CALLED though below NEED", pit.money(0, 2), 0);
            Check.is("in DEFAULT for ever", pit.money(0, 3), 1);
        }
        Check.is("it may pay", pit.pay(0, 1), 0);
        pit.night();
        Check.is("in DEFAULT for ever", pit.money(0, 3), 1);
    }

    /** "how many came into DEFAULT". */
    private static void howManyCameIntoDefault() {
        for (int many : new int[] {0, 1, 11, 12}) {
            Pit pit = Check.withMembers(12);
            for (int i = 12 - many; i < 12; i++) {
                pit.pay(i, -1);
            }
            Check.is("none on the first night", pit.night(), 0);
            Check.is("on the second", pit.night(), many);
            Check.is("none on the third", pit.night(), 0);
        }
    }

    /** "MEMBER by MEMBER from 0 on, not in DEFAULT": each with what those ahead of it left. */
    private static void memberByMemberFromNoughtOn() {
        Pit pit = Check.withMembers(3);
        Check.tell(pit, "keep from 0 is 10; first from 0 is 10;");
        Check.deal(pit, 2, 1, 0, 1, 100);
        Check.deal(pit, 1, 0, 1, 1, 100);
        pit.night();
        // 0 falls and takes 1's lots of month 1; 1 needs 10 yet and falls; 2 has none then
        Check.is("two fall", pit.night(), 2);
        Check.is("0", pit.money(0, 3), 1);
        Check.is("1", pit.money(1, 3), 1);
        Check.is("2 has no POSITION and no CALL", pit.money(2, 3) + pit.money(2, 2) + pit.position(2, 0), 0);
        Pit back = Check.withMembers(2);
        Check.tell(back, "keep from 0 is 10; first from 0 is 10;");
        Check.deal(back, 0, 1, 0, 1, 100);
        back.pay(0, 10);
        back.night();
        // 0 reached NEED ahead of 1's fall; that it has no POSITION then changes nothing of its turn
        back.pay(0, -1);
        Check.is("1 falls", back.night(), 1);
        Check.is("0 was CALLED in its turn", back.money(0, 2), 1);
        Check.is("0 has no POSITION", back.position(0, 0), 0);
        back.night();
        Check.is("and then is not any more", back.money(0, 2), 0);
    }
}
