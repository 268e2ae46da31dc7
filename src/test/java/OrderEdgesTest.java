/** The boundary cases of promises 7 to 13 and of Terms 1 and 3, each by the sentence that names it. */
public final class OrderEdgesTest {
    private static final int[] FAR = {Integer.MIN_VALUE, Integer.MIN_VALUE + 1, Integer.MAX_VALUE - 1, Integer.MAX_VALUE};

    private OrderEdgesTest() {
    }

    public static void main(String[] args) {
        atMostTwelveMembers();
        paidInOrTakenOut();
        mayBeBelowNought();
        monthsPricesAndLots();
        inDefaultOrClosed();
        furtherThanLimit();
        limitIfThereIsASettle();
        limitsThatWentRound();
        wordsOfWhichNothingIsTold();
        aboveCap();
        capAndContrary();
        capsThatWentRound();
        hundredAndTwentyWait();
        theFirstReason();
        asFarAsPricesMeet();
        asFarAsLotsAreLeft();
        bestPriceFirstThenTheEarliest();
        againstOnesOwn();
        theLatestThatWaits();
        ranks();
        tradesAreNumbered();
        struckOnce();
        struckWhereItMayBe();
        Check.finish("OrderEdgesTest");
    }

    /** "MEMBERS 0 .. as they come, at most 12"; "its number; NONE: there are 12". */
    private static void atMostTwelveMembers() {
        Pit pit = new Pit();
        for (int i = 0; i < 12; i++) {
            int next = i;
            Check.isMissing("ahead of it", () -> pit.pay(next, 1));
            Check.is("member", pit.member(), i);
            Check.is("there is one such", pit.pay(i, 1), 1);
            Check.is("count(1)", pit.count(1), i + 1);
        }
        Check.is("the 13th", pit.member(), GrainPit.NONE);
        Check.is("and so on", pit.member(), GrainPit.NONE);
        Check.isMissing("there is none such", () -> pit.pay(12, 1));
        Check.is("the last may buy", pit.order(11, true, 0, 100, 1), 0);
        Check.is("from the first", pit.order(0, false, 0, 100, 1), 1);
    }

    /** "MONEY is paid in, or taken out (v -1000000 .. 1000000)". */
    private static void paidInOrTakenOut() {
        Pit pit = Check.withMembers(2);
        Check.is("the most", pit.pay(0, 1000000), 1000000);
        Check.is("one less", pit.pay(0, 999999), 1999999);
        Check.is("nothing", pit.pay(0, 0), 1999999);
        Check.is("the least", pit.pay(0, -1000000), 999999);
        Check.is("one more", pit.pay(0, -999999), 0);
        Check.isMissing("above", () -> pit.pay(0, 1000001));
        Check.isMissing("below", () -> pit.pay(0, -1000001));
        for (int v : FAR) {
            Check.isMissing("far away", () -> pit.pay(0, v));
        }
        Check.isMissing("no such MEMBER", () -> pit.pay(2, 0));
        Check.isMissing("no such MEMBER", () -> pit.pay(-1, 0));
        Check.is("as it was", pit.money(0, 0), 0);
    }

    /** "with MONEY PAID in (may be below 0)". */
    private static void mayBeBelowNought() {
        Pit pit = Check.withMembers(1);
        Check.is("one below", pit.pay(0, -1), -1);
        Check.is("nought", pit.pay(0, 1), 0);
        long sum = 0;
        for (int i = 0; i < 500; i++) {
            sum -= 1000000;
            Check.is("far below", pit.pay(0, -1000000), sum);
        }
        Check.is("PAID", pit.money(0, 0), -500000000);
    }

    /** Reason 1: "no such MEMBER, MONTH, lots, or PRICE"; "MONTHS 0 .. 5", "PRICES 1 .. 10000", "lots 1 .. 50". */
    private static void monthsPricesAndLots() {
        for (boolean buy : new boolean[] {true, false}) {
            for (int month = -2; month <= 7; month++) {
                Check.is("month " + month, Check.withMembers(1).order(0, buy, month, 100, 1),
                        month >= 0 && month <= 5 ? 0 : -2);
            }
            for (int member = -2; member <= 4; member++) {
                Check.is("member " + member, Check.withMembers(3).order(member, buy, 0, 100, 1),
                        member >= 0 && member <= 2 ? 0 : -2);
            }
            for (int lots = -1; lots <= 52; lots++) {
                Check.is("lots " + lots, Check.withMembers(1).order(0, buy, 0, 100, lots),
                        lots >= 1 && lots <= 50 ? 0 : -2);
            }
            for (int price : new int[] {-1, 0, 1, 2, 9999, 10000, 10001, 10002}) {
                Check.is("price " + price, Check.withMembers(1).order(0, buy, 0, price, 1),
                        price >= 1 && price <= 10000 ? 0 : -2);
            }
            for (int n : FAR) {
                Pit pit = Check.withMembers(1);
                Check.is("month " + n, pit.order(0, buy, n, 100, 1), -2);
                Check.is("member " + n, pit.order(n, buy, 0, 100, 1), -2);
                Check.is("lots " + n, pit.order(0, buy, 0, 100, n), -2);
                Check.is("price " + n, pit.order(0, buy, 0, n, 1), -2);
            }
        }
    }

    /** Reason 2: "it is in DEFAULT, or the MONTH is CLOSED". */
    private static void inDefaultOrClosed() {
        Pit pit = Check.withMembers(3);
        pit.pay(0, -1);
        pit.night();
        Check.is("CALLED, it may buy", pit.order(0, true, 1, 100, 1), 0);
        Check.is("it falls", pit.night(), 1);
        for (int month = 0; month < 6; month++) {
            Check.is("in DEFAULT it may not buy", pit.order(0, true, month, 100, 1), -3);
            Check.is("nor sell", pit.order(0, false, month, 100, 1), -3);
        }
        pit.pay(0, 1000);
        Check.is("nor when it has paid", pit.order(0, true, 1, 100, 1), -3);
        for (int month = 0; month < 6; month += 5) {
            Check.is("ahead of it", pit.order(1, true, month, 100, 1), 0);
            pit.deliver(month);
            Check.is("in a CLOSED MONTH nobody may buy", pit.order(1, true, month, 100, 1), -3);
            Check.is("nor sell", pit.order(2, false, month, 100, 1), -3);
        }
        Check.is("a neighbour is open", pit.order(1, true, 1, 100, 1), 0);
        Check.is("a neighbour is open", pit.order(1, true, 4, 100, 1), 0);
    }

    private static Pit settled(int price, String limit) {
        Pit pit = Check.withMembers(2);
        Check.deal(pit, 0, 1, 0, 1, price);
        pit.night();
        Check.is("rules", Check.tell(pit, "limit from 0 is " + limit + ";"), 1);
        return pit;
    }

    private static void isTaken(int settle, String limit, int price, boolean taken) {
        for (boolean buy : new boolean[] {true, false}) {
            Check.is("SETTLE " + settle + ", limit " + limit + ", PRICE " + price,
                    settled(settle, limit).order(0, buy, 0, price, 1), taken ? 0 : -4);
        }
    }

    /** Reason 3: "a PRICE further than limit from the latest SETTLE". */
    private static void furtherThanLimit() {
        for (int limit : new int[] {0, 1, 7, 4998}) {
            isTaken(5000, "" + limit, 5000 - limit, true);
            isTaken(5000, "" + limit, 5000 + limit, true);
            isTaken(5000, "" + limit, 5000 - limit - 1, false);
            isTaken(5000, "" + limit, 5000 + limit + 1, false);
        }
        isTaken(1, "0", 1, true);
        isTaken(1, "0", 2, false);
        isTaken(1, "9999", 10000, true);
        isTaken(1, "9998", 10000, false);
        isTaken(10000, "0", 10000, true);
        isTaken(10000, "9999", 1, true);
        isTaken(10000, "9998", 1, false);
        isTaken(5000, "-1", 5000, false);
    }

    /** ".. from the latest SETTLE, if there is one"; it is that of the DAY before today, as known now. */
    private static void limitIfThereIsASettle() {
        Pit pit = Check.withMembers(2);
        Check.tell(pit, "limit from 0 is 0;");
        Check.deal(pit, 0, 1, 0, 1, 100);
        Check.is("today's TRADE is no SETTLE", pit.order(0, true, 0, 10000, 1), 0);
        pit.night();
        Check.is("SETTLE 100", pit.order(0, true, 0, 100, 1), 0);
        Check.is("not 101", pit.order(0, true, 0, 101, 1), -4);
        Check.is("another MONTH has none", pit.order(0, true, 1, 10000, 1), 0);
        Check.is("put right", pit.right(0, 0, 101), true);
        Check.is("101 as known now", pit.order(0, true, 0, 101, 1), 0);
        Check.is("not 100", pit.order(0, true, 0, 100, 1), -4);
        pit.night();
        Check.is("copied as known", pit.order(0, true, 0, 101, 1), 0);
        pit.right(0, 0, 99);
        Check.is("an earlier DAY's is not the latest", pit.order(0, true, 0, 99, 1), -4);
    }

    /** The least and the greatest that limit can come to. */
    private static void limitsThatWentRound() {
        isTaken(5000, "65536 * 32768", 5000, false);
        isTaken(5000, "65536 * 32768 - 1", 1, true);
        isTaken(5000, "65536 * 32768 - 1", 10000, true);
        isTaken(5000, "65536 * 65536", 5000, true);
        isTaken(5000, "65536 * 65536", 5001, false);
    }

    /** "WORDS .. (0 where nothing is told)": lots, grade, place for limit, and price, grade, place for cap. */
    private static void wordsOfWhichNothingIsTold() {
        for (String word : new String[] {"lots", "grade", "place"}) {
            isTaken(5000, "7 + " + word, 5007, true);
            isTaken(5000, "7 + " + word, 5008, false);
        }
        isTaken(5000, "price - 4990", 5010, true);
        isTaken(5000, "price - 4990", 5011, false);
        isTaken(5000, "day", 5001, true);
        isTaken(5000, "day", 5002, false);
        for (String word : new String[] {"price", "grade", "place", "month"}) {
            Pit pit = settled(5000, "10000");
            Check.tell(pit, "cap from 0 is 7 + " + word + ";");
            Check.is("-1 and 9 are above cap 7 + " + word, pit.order(1, true, 0, 4000, 9), -5);
            Check.is("-1 and 8 are not", pit.order(1, true, 0, 4000, 8), 0);
        }
    }

    /** Reason 4: "POSITION, and all its waiting lots of that side and MONTH, and these, are above cap". */
    private static void aboveCap() {
        for (boolean buy : new boolean[] {true, false}) {
            Pit pit = Check.withMembers(3);
            Check.tell(pit, "cap from 0 is 10;");
            Check.is("11", pit.order(0, buy, 0, 100, 11), -5);
            Check.is("10", pit.order(0, buy, 0, 100, 10), 0);
            Check.is("10 wait and 1", pit.order(0, buy, 0, 100, 1), -5);
            Check.is("in another MONTH", pit.order(0, buy, 1, 100, 10), 0);
            Check.is("of another side", pit.order(0, !buy, 0, buy ? 101 : 99, 10), 0);
            Check.is("of another side", pit.order(0, !buy, 0, buy ? 101 : 99, 1), -5);
            Check.is("of another MEMBER", pit.order(1, buy, 0, buy ? 99 : 101, 10), 0);
            Check.is("4 are filled", pit.order(2, !buy, 0, 100, 4), 4);
            Check.is("4 held, 6 wait, and 1", pit.order(0, buy, 0, 100, 1), -5);
            Check.is("the 10 of the other side", pit.cancel(0, 0), 10);
            Check.is("the 6 that wait", pit.cancel(0, 0), 6);
            Check.is("4 held and 7", pit.order(0, buy, 0, 100, 7), -5);
            Check.is("4 held and 6", pit.order(0, buy, 0, 100, 6), 0);
        }
        Pit plain = Check.withMembers(1);
        for (int i = 0; i < 19; i++) {
            plain.order(0, true, 0, 100, 50);
        }
        plain.order(0, true, 0, 100, 49);
        Check.is("1001 without a rule", plain.order(0, true, 0, 100, 2), -5);
        Check.is("1000 without a rule", plain.order(0, true, 0, 100, 1), 0);
    }

    /** ".. for a buyer POSITION, for a seller its contrary": the other way it makes room. */
    private static void capAndContrary() {
        Pit pit = Check.withMembers(2);
        Check.deal(pit, 0, 1, 0, 5, 100);
        Check.tell(pit, "cap from 0 is 0;");
        Check.is("a long may not buy", pit.order(0, true, 0, 50, 1), -5);
        Check.is("it may sell 5, not 6", pit.order(0, false, 0, 200, 6), -5);
        Check.is("it may sell 5", pit.order(0, false, 0, 200, 5), 0);
        Check.is("not one more", pit.order(0, false, 0, 200, 1), -5);
        Check.is("a short may not sell", pit.order(1, false, 0, 200, 1), -5);
        Check.is("it may buy 5, not 6", pit.order(1, true, 0, 50, 6), -5);
        Check.is("it may buy 5", pit.order(1, true, 0, 50, 5), 0);
        Check.tell(pit, "cap from 0 is -3;");
        pit.cancel(1, 0);
        Check.is("cap -3: 3 are too many", pit.order(1, true, 0, 50, 3), -5);
        Check.is("cap -3: 2", pit.order(1, true, 0, 50, 2), 0);
    }

    private static void capsThatWentRound() {
        Pit pit = Check.withMembers(1);
        Check.tell(pit, "cap from 0 is 65536 * 32768;");
        Check.is("the least", pit.order(0, true, 0, 100, 1), -5);
        Check.tell(pit, "cap from 0 is 65536 * 32768 - 1;");
        Check.is("the greatest", pit.order(0, true, 0, 100, 50), 0);
        Check.tell(pit, "cap from 0 is lots = 50;");
        Check.is("by these lots: 50 above 1", pit.order(0, true, 1, 100, 50), -5);
        Check.tell(pit, "cap from 0 is lots;");
        Check.is("by these lots: 50 are not above 50", pit.order(0, true, 1, 100, 50), 0);
        Check.is("by these lots: 50 and 50 are", pit.order(0, true, 1, 100, 50), -5);
    }

    /** Reason 5: "there are 120 waiting, or 700 trades" (512 calls do not come to 700 trades). */
    private static void hundredAndTwentyWait() {
        Pit pit = Scenes.waiting(119);
        Check.is("the 120th", pit.order(0, true, 0, 10, 1), 0);
        Check.is("120 wait", pit.count(3), 120);
        Check.is("the 121st", pit.order(0, true, 0, 10, 1), -6);
        Check.is("in an empty row of another MEMBER", pit.order(1, true, 1, 10, 1), -6);
        Check.is("cancel", pit.cancel(0, 0), 1);
        Check.is("the 120th again", pit.order(0, true, 0, 10, 1), 0);
        Pit part = Scenes.waiting(119);
        Check.is("one of 119 is filled from, nothing of the order waits", part.order(0, true, 3, 20, 1), 1);
        Check.is("118 wait", part.count(3), 118);
        Check.is("the nine others are filled from", part.order(0, true, 3, 20, 50), 9);
        Check.is("what is left waits", part.count(3), 110);
        Pit night = Scenes.waiting(120);
        night.night();
        Check.is("room behind the day's end", night.order(0, true, 0, 10, 1), 0);
        Pit closed = Scenes.waiting(120);
        closed.deliver(5);
        Check.is("room behind deliver", closed.count(3), 100);
        Check.is("room behind deliver", closed.order(0, true, 0, 10, 1), 0);
    }

    /** "Refused (one reason, the first)": every choice of reasons that hold at once. */
    private static void theFirstReason() {
        for (int waiting : new int[] {100, 120}) {
            for (int member = 0; member < 2; member++) {
                for (int price : new int[] {100, 111}) {
                    for (int lots : new int[] {0, 1, 50, 51}) {
                        boolean wrong = lots < 1 || lots > 50;
                        int reason = wrong ? 1 : member == 0 ? 2 : price == 111 ? 3 : lots == 50 ? 4
                                : waiting == 120 ? 5 : 0;
                        Check.is(waiting + " wait, member " + member + ", price " + price + ", lots " + lots,
                                manyReasons(waiting).order(member, true, 0, price, lots), reason == 0 ? 0 : -1 - reason);
                    }
                }
            }
        }
    }

    /** 0 is in DEFAULT; SETTLE is 100, limit 10, cap 48, and 1 is short one lot. */
    private static Pit manyReasons(int waiting) {
        Pit pit = Check.withMembers(12);
        Check.deal(pit, 2, 1, 0, 1, 100);
        pit.pay(0, -1);
        pit.night();
        pit.night();
        for (int i = 0; i < waiting; i++) {
            pit.order(2 + i % 10, true, 1 + i % 5, 100, 1);
        }
        Check.tell(pit, "limit from 0 is 10; cap from 0 is 48;");
        return pit;
    }

    /** "as far as PRICES meet". */
    private static void asFarAsPricesMeet() {
        int[][] steps = {{99, 0}, {100, 1}, {101, 1}};
        for (int[] step : steps) {
            Pit pit = Check.withMembers(2);
            pit.order(0, false, 0, 100, 1);
            Check.is("a bid at " + step[0], pit.order(1, true, 0, step[0], 1), step[1]);
            Pit other = Check.withMembers(2);
            other.order(0, true, 0, 100, 1);
            Check.is("an offer at " + (200 - step[0]), other.order(1, false, 0, 200 - step[0], 1), step[1]);
        }
        Pit pit = Check.withMembers(2);
        pit.order(0, false, 0, 1, 1);
        pit.order(0, false, 0, 10000, 1);
        Check.is("from 1 to 9999", pit.order(1, true, 0, 9999, 2), 1);
        Check.is("at the waiting one's PRICE", pit.trade(0, 1), 1);
        Check.is("the bid waits below the offer", pit.waiting(true, 0, 0, 1), 9999);
        Check.is("at 10000", pit.order(1, true, 0, 10000, 1), 1);
        Check.is("at the waiting one's PRICE", pit.trade(1, 1), 10000);
    }

    /** ".. and lots are left"; "what is left waits". */
    private static void asFarAsLotsAreLeft() {
        for (int lots : new int[] {1, 49, 50}) {
            Pit pit = Check.withMembers(2);
            pit.order(0, false, 0, 100, 49);
            int filled = Math.min(lots, 49);
            Check.is("filled", pit.order(1, true, 0, 100, lots), filled);
            Check.is("TRADE's lots", pit.trade(0, 2), filled);
            Check.is("one TRADE", pit.count(2), 1);
            Check.is("what is left of the offer", pit.waiting(false, 0, 0, 2), lots < 49 ? 49 - lots : GrainPit.NONE);
            Check.is("what is left of the bid", pit.waiting(true, 0, 0, 2), lots > 49 ? lots - 49 : GrainPit.NONE);
            Check.is("waiting", pit.count(3), lots == 49 ? 0 : 1);
        }
    }

    /** "the best PRICE first (for a buyer the lowest), of one PRICE the earliest". */
    private static void bestPriceFirstThenTheEarliest() {
        Pit pit = Check.withMembers(4);
        pit.order(0, false, 0, 101, 1);
        pit.order(1, false, 0, 100, 2);
        pit.order(2, false, 0, 100, 2);
        pit.order(3, true, 0, 100, 1);
        Check.is("the earliest of the lowest", pit.trade(0, 4), 1);
        pit.order(3, true, 0, 101, 1);
        Check.is("it keeps its rank with what is left", pit.trade(1, 4), 1);
        pit.order(3, true, 0, 101, 3);
        Check.is("then the next of that PRICE", pit.trade(2, 4), 2);
        Check.is("all of it", pit.trade(2, 2), 2);
        Check.is("then the next PRICE", pit.trade(3, 4), 0);
        Check.is("none is left", pit.count(3), 0);
        Pit bids = Check.withMembers(4);
        bids.order(0, true, 0, 99, 1);
        bids.order(1, true, 0, 100, 1);
        bids.order(2, true, 0, 100, 1);
        bids.order(3, false, 0, 99, 3);
        Check.is("the highest, the earliest", bids.trade(0, 3), 1);
        Check.is("the highest", bids.trade(1, 3), 2);
        Check.is("then the next", bids.trade(2, 3), 0);
    }

    /** "(an ORDER against one's own is a TRADE, too)"; "with itself nothing of this". */
    private static void againstOnesOwn() {
        for (int held = -1; held <= 1; held++) {
            Pit pit = Check.withMembers(3);
            if (held > 0) {
                Check.deal(pit, 0, 1, 0, 1, 90);
                Check.deal(pit, 2, 1, 0, 1, 90);
            } else if (held < 0) {
                Check.deal(pit, 1, 0, 0, 1, 90);
            }
            int first = pit.longOf(0, 0, 0);
            int before = pit.count(2);
            long worth = pit.money(0, 1);
            pit.order(0, false, 0, 100, 50);
            Check.is("filled", pit.order(0, true, 0, 100, 50), 50);
            Check.is("a TRADE", pit.count(2), before + 1);
            Check.is("its buyer", pit.trade(before, 3), 0);
            Check.is("its seller", pit.trade(before, 4), 0);
            Check.is("POSITION as it was", pit.position(0, 0), held);
            Check.is("EQUITY as it was", pit.money(0, 1), worth);
            Check.is("the first LONG as it was", pit.longOf(0, 0, 0), first);
            Check.is("STRUCK", pit.strike(before), true);
            Check.is("the first LONG as it was", pit.longOf(0, 0, 0), first);
            Check.is("POSITION as it was", pit.position(0, 0), held);
        }
    }

    /** "The latest ORDER that waits of a MEMBER in a MONTH is gone: its lots; NONE without one". */
    private static void theLatestThatWaits() {
        Pit pit = Check.withMembers(2);
        Check.is("without one", pit.cancel(0, 0), GrainPit.NONE);
        pit.order(0, true, 0, 100, 50);
        pit.order(0, true, 0, 99, 1);
        pit.order(1, true, 0, 98, 7);
        Check.is("the latest of its own", pit.cancel(0, 0), 1);
        Check.is("the one ahead", pit.cancel(0, 0), 50);
        Check.is("no more", pit.cancel(0, 0), GrainPit.NONE);
        pit.order(0, false, 5, 200, 2);
        pit.order(0, true, 5, 100, 3);
        pit.order(0, false, 5, 199, 4);
        Check.is("an offer", pit.cancel(0, 5), 4);
        Check.is("a bid", pit.cancel(0, 5), 3);
        pit.order(1, true, 5, 200, 1);
        Check.is("what is left of one", pit.cancel(0, 5), 1);
        pit.order(0, false, 5, 100, 6);
        Check.is("all filled", pit.order(1, true, 5, 100, 6), 6);
        Check.is("what is filled does not wait", pit.cancel(0, 5), GrainPit.NONE);
        Check.is("the other's waits yet", pit.cancel(1, 0), 7);
        pit.order(0, true, 0, 100, 1);
        pit.night();
        Check.is("gone by night", pit.cancel(0, 0), GrainPit.NONE);
        pit.order(0, true, 0, 100, 1);
        pit.deliver(0);
        Check.is("gone by deliver", pit.cancel(0, 0), GrainPit.NONE);
    }

    /** "The i-th waiting ORDER of a side of a MONTH, by rank": the first, the last, one behind. */
    private static void ranks() {
        for (boolean buy : new boolean[] {true, false}) {
            Pit pit = Check.withMembers(1);
            Check.is("an empty side", pit.waiting(buy, 0, 0, 0), GrainPit.NONE);
            for (int i = 0; i < 40; i++) {
                pit.order(0, buy, 0, 100 + i * 7 % 40, 1 + i);
            }
            for (int i = 0; i < 40; i++) {
                int price = buy ? 139 - i : 100 + i;
                Check.is("PRICE at " + i, pit.waiting(buy, 0, i, 1), price);
                Check.is("lots at " + i, (pit.waiting(buy, 0, i, 2) - 1) * 7 % 40, price - 100);
            }
            Check.is("one behind", pit.waiting(buy, 0, 40, 1), GrainPit.NONE);
            Check.is("one ahead", pit.waiting(buy, 0, -1, 1), GrainPit.NONE);
            Check.is("the other side", pit.waiting(!buy, 0, 0, 1), GrainPit.NONE);
        }
    }

    /** "Of TRADE t, what 0 .. 6; NONE: none such, another what". */
    private static void tradesAreNumbered() {
        Pit pit = Check.withMembers(12);
        Check.is("none yet", pit.trade(0, 0), GrainPit.NONE);
        pit.night();
        Check.deal(pit, 11, 0, 5, 50, 10000);
        Check.deal(pit, 0, 11, 0, 1, 1);
        int[][] due = {{5, 10000, 50, 11, 0, 1, 0}, {0, 1, 1, 0, 11, 1, 0}};
        for (int t = 0; t < 2; t++) {
            for (int what = 0; what < 7; what++) {
                Check.is("trade(" + t + ", " + what + ")", pit.trade(t, what), due[t][what]);
            }
            Check.is("what 7", pit.trade(t, 7), GrainPit.NONE);
            Check.is("what -1", pit.trade(t, -1), GrainPit.NONE);
        }
        Check.is("one behind", pit.trade(2, 0), GrainPit.NONE);
        Check.is("one ahead", pit.trade(-1, 0), GrainPit.NONE);
    }

    /** "one may be STRUCK, once: as if its seller bought from its buyer at its PRICE". */
    private static void struckOnce() {
        Pit pit = Check.withMembers(2);
        Check.deal(pit, 0, 1, 0, 50, 10000);
        Check.deal(pit, 0, 1, 0, 1, 1);
        Check.is("not STRUCK", pit.trade(0, 6), 0);
        Check.is("the first", pit.strike(0), true);
        Check.is("STRUCK", pit.trade(0, 6), 1);
        Check.is("the last is not", pit.trade(1, 6), 0);
        Check.is("not twice", pit.strike(0), false);
        Check.is("POSITION", pit.position(0, 0), 1);
        Check.is("EQUITY", pit.money(0, 1), -1);
        Check.is("the last", pit.strike(1), true);
        Check.is("not twice", pit.strike(1), false);
        Check.is("none behind", pit.strike(2), false);
        Check.is("none ahead", pit.strike(-1), false);
        Check.is("POSITION", pit.position(0, 0), 0);
        Check.is("EQUITY", pit.money(0, 1), 0);
        Check.is("no LONG", pit.longOf(0, 0, 0), GrainPit.NONE);
        Check.is("no TRADE more", pit.count(2), 2);
    }

    /** "false if .. its buyer or seller is in DEFAULT, or its MONTH is CLOSED". */
    private static void struckWhereItMayBe() {
        Pit pit = Check.withMembers(4);
        pit.pay(0, -1);
        Check.deal(pit, 0, 1, 0, 1, 100);
        Check.deal(pit, 1, 0, 1, 1, 100);
        Check.deal(pit, 2, 1, 2, 1, 100);
        Check.deal(pit, 2, 1, 3, 1, 100);
        pit.night();
        Check.is("its buyer is CALLED alone", pit.strike(0), true);
        Check.is("0 falls", pit.night(), 1);
        Check.is("its seller fell", pit.strike(1), false);
        Check.is("a neighbour is CLOSED", pit.deliver(1), true);
        Check.is("its own is open", pit.strike(2), true);
        Check.is("its own is CLOSED", pit.deliver(3), true);
        Check.is("its own is CLOSED", pit.strike(3), false);
        Check.is("nothing came of it", pit.trade(3, 6), 0);
        Check.is("nothing came of it", pit.position(2, 3), 1);
    }
}
