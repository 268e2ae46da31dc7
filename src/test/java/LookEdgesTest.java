/** The boundary cases of promises 1 and 15 to 18 and of Terms 1, each by the sentence that names it. */
public final class LookEdgesTest {
    private LookEdgesTest() {
    }

    public static void main(String[] args) {
        aNewObject();
        settleNoughtAheadOfAny();
        allEquityIsAllMoneyPaid();
        takenFromTheSellersLongs();
        thoseBehindStayInOrder();
        firstMakeTheShortLess();
        aLongBehindAllOthers();
        whatOfMoney();
        needsOfNow();
        needsThatGoFar();
        freeReceipts();
        positions();
        longs();
        counts();
        Check.finish("LookEdgesTest");
    }

    /** "DAY 0: no MEMBERS, RULES, RECEIPTS". */
    private static void aNewObject() {
        Pit pit = new Pit();
        for (int what = 0; what <= 8; what++) {
            Check.is("count(" + what + ")", pit.count(what), 0);
        }
        Check.isMissing("no MEMBER", () -> pit.money(0, 0));
        Check.isMissing("no MEMBER", () -> pit.position(0, 0));
        Check.is("no MEMBER", pit.order(0, true, 0, 100, 1), -2);
        Check.is("no MEMBER", pit.receipt(0, 0, 0), GrainPit.NONE);
        Check.is("no RECEIPT", pit.stored(0, 0), GrainPit.NONE);
        Check.is("no NOTICE", pit.told(0, 0), GrainPit.NONE);
        Check.is("no TRADE", pit.trade(0, 0), GrainPit.NONE);
        Check.is("no RULE", pit.rule(0, 0, 0, 0, 0, 0, 0), 1000);
        Check.is("no day is over", pit.settle(0, 0, 0), GrainPit.NONE);
        Check.isMissing("no day is over", () -> pit.equity(0, 0, 0));
        for (int month = 0; month < 6; month++) {
            Check.is("open", pit.squeeze(month, 0), 0);
            Check.is("no LONG", pit.longOf(month, 0, 0), GrainPit.NONE);
            Check.is("no bid", pit.waiting(true, month, 0, 0), GrainPit.NONE);
            Check.is("no offer", pit.waiting(false, month, 0, 0), GrainPit.NONE);
        }
    }

    /** "the sum of POSITION * the latest SETTLE (0 ahead of any), less COST". */
    private static void settleNoughtAheadOfAny() {
        Pit pit = Check.withMembers(2);
        Check.is("without a POSITION", pit.money(0, 1), 0);
        Check.deal(pit, 0, 1, 0, 50, 10000);
        Check.deal(pit, 1, 0, 5, 1, 1);
        Check.is("COST alone", pit.money(0, 1), -500000 + 1);
        Check.is("COST alone", pit.money(1, 1), 500000 - 1);
        pit.strike(0);
        pit.night();
        Check.is("a SETTLE in one MONTH", pit.money(0, 1), 0);
        Check.deal(pit, 0, 1, 0, 50, 10000);
        Check.is("none in the other yet", pit.money(0, 1), -500000);
        pit.night();
        Check.is("at SETTLE", pit.money(0, 1), 0);
        Check.deal(pit, 1, 0, 0, 50, 9999);
        Check.is("without a POSITION, COST is 50", pit.money(0, 1), -50);
    }

    private static void isAll(String when, Pit pit, long paid) {
        long worth = 0;
        long all = 0;
        for (int i = 0; i < pit.count(1); i++) {
            worth += pit.money(i, 1);
            all += pit.money(i, 0);
        }
        Check.is("EQUITY " + when, worth, paid);
        Check.is("PAID " + when, all, paid);
        for (int month = 0; month < 6; month++) {
            int sum = 0;
            for (int i = 0; i < pit.count(1); i++) {
                sum += pit.position(i, month);
            }
            Check.is("POSITIONS " + when, sum, 0);
        }
    }

    /** "(All EQUITY is all MONEY PAID: POSITIONS and COSTS come to 0.)", behind all that moves lots or money. */
    private static void allEquityIsAllMoneyPaid() {
        long paid = 3015;
        isAll("in a busy exchange", Scenes.busy(), paid);
        Pit pit = Scenes.busy();
        pit.pass(4);
        pit.keep(3);
        isAll("behind a pass and a keep", pit, paid);
        pit.strike(5);
        isAll("behind a strike", pit, paid);
        pit.right(0, 1, 10000);
        pit.right(2, 1, 1);
        isAll("behind prices put right", pit, paid);
        Pit nights = Scenes.busy();
        nights.pay(0, -1000);
        nights.pay(2, 7);
        nights.night();
        nights.night();
        isAll("behind two nights", nights, paid - 1000 + 7);
    }

    private static void isRow(Pit pit, int... row) {
        for (int i = 0; i < row.length; i += 2) {
            Check.is("MEMBER of LONG " + i / 2, pit.longOf(0, i / 2, 0), row[i]);
            Check.is("lots of LONG " + i / 2, pit.longOf(0, i / 2, 1), row[i + 1]);
        }
        Check.is("no LONG more", pit.longOf(0, row.length / 2, 0), GrainPit.NONE);
    }

    /** LONGS (0, 2), (1, 4), (0, 3), (1, 1), and 2 and 3 have none. */
    private static Pit withLongs() {
        Pit pit = Check.withMembers(4);
        Check.deal(pit, 0, 3, 0, 2, 100);
        Check.deal(pit, 1, 3, 0, 4, 100);
        Check.deal(pit, 0, 3, 0, 3, 100);
        Check.deal(pit, 1, 3, 0, 1, 100);
        isRow(pit, 0, 2, 1, 4, 0, 3, 1, 1);
        return pit;
    }

    /** "the seller's lots are taken from its LONGS, the earliest first, as far as it has any". */
    private static void takenFromTheSellersLongs() {
        int[][] rows = {
            {0, 1, 1, 4, 0, 3, 1, 1, 2, 1},
            {1, 4, 0, 3, 1, 1, 2, 2},
            {1, 4, 0, 2, 1, 1, 2, 3},
            {1, 4, 0, 1, 1, 1, 2, 4},
            {1, 4, 1, 1, 2, 5},
            {1, 4, 1, 1, 2, 6},
            {1, 4, 1, 1, 2, 7}};
        for (int sold = 1; sold <= rows.length; sold++) {
            Pit pit = withLongs();
            Check.deal(pit, 2, 0, 0, sold, 100);
            isRow(pit, rows[sold - 1]);
            Check.is("POSITION", pit.position(0, 0), 5 - sold);
        }
        Pit none = withLongs();
        Check.deal(none, 2, 3, 0, 1, 100);
        isRow(none, 0, 2, 1, 4, 0, 3, 1, 1, 2, 1);
    }

    /** "(those behind stay in order)". */
    private static void thoseBehindStayInOrder() {
        Pit pit = withLongs();
        Check.deal(pit, 2, 1, 0, 4, 100);
        isRow(pit, 0, 2, 0, 3, 1, 1, 2, 4);
        Check.deal(pit, 2, 1, 0, 1, 100);
        isRow(pit, 0, 2, 0, 3, 2, 4, 2, 1);
        Check.deal(pit, 1, 2, 0, 5, 100);
        isRow(pit, 0, 2, 0, 3, 1, 5);
        Check.deal(pit, 1, 0, 0, 5, 100);
        isRow(pit, 1, 5, 1, 5);
        Check.deal(pit, 3, 1, 0, 10, 100);
        isRow(pit);
    }

    /** "the buyer's POSITION being below 0, its lots first make that less; what is left is a LONG". */
    private static void firstMakeTheShortLess() {
        // 3 is short 10
        for (int bought : new int[] {1, 9, 10, 11, 50}) {
            Pit pit = withLongs();
            Check.deal(pit, 3, 2, 0, bought, 100);
            Check.is("POSITION", pit.position(3, 0), bought - 10);
            if (bought > 10) {
                isRow(pit, 0, 2, 1, 4, 0, 3, 1, 1, 3, bought - 10);
            } else {
                isRow(pit, 0, 2, 1, 4, 0, 3, 1, 1);
            }
        }
        // a POSITION of 0: all of it is a LONG
        Pit pit = withLongs();
        Check.deal(pit, 2, 3, 0, 50, 100);
        isRow(pit, 0, 2, 1, 4, 0, 3, 1, 1, 2, 50);
    }

    /** "a LONG behind all others": also behind the buyer's own, and not joined to it. */
    private static void aLongBehindAllOthers() {
        Pit pit = withLongs();
        Check.deal(pit, 1, 3, 0, 1, 100);
        isRow(pit, 0, 2, 1, 4, 0, 3, 1, 1, 1, 1);
        Check.deal(pit, 0, 1, 0, 6, 100);
        isRow(pit, 0, 2, 0, 3, 0, 6);
        for (int month = 1; month < 6; month++) {
            Check.is("another MONTH's row", pit.longOf(month, 0, 0), GrainPit.NONE);
        }
    }

    /** "NoSuchElementException: no such MEMBER, another what". */
    private static void whatOfMoney() {
        Pit pit = Check.withMembers(12);
        pit.pay(11, 5);
        long[] due = {5, 5, 0, 0, 0, 0, 0};
        for (int what = 0; what <= 6; what++) {
            Check.is("of the last MEMBER, what " + what, pit.money(11, what), due[what]);
            int w = what;
            Check.isMissing("of none", () -> pit.money(12, w));
            Check.isMissing("of none", () -> pit.money(-1, w));
        }
        Check.isMissing("what 7", () -> pit.money(11, 7));
        Check.isMissing("what -1", () -> pit.money(11, -1));
    }

    /** "NEED by first, by keep, with today, the latest SETTLES (0 without) and POSITIONS of now". */
    private static void needsOfNow() {
        Pit pit = Check.withMembers(2);
        Check.tell(pit, "first from 0 is 1 + price; keep from 1 is 1 + day + lots * 10 + month * 100;");
        Check.is("without a POSITION", pit.money(0, 4), 0);
        Check.deal(pit, 0, 1, 5, 1, 100);
        Check.is("without a SETTLE price is 0", pit.money(0, 4), 1);
        Check.is("a RULE of tomorrow", pit.money(0, 5), 0);
        pit.night();
        Check.is("the latest SETTLE", pit.money(0, 4), 101);
        Check.is("today's RULE", pit.money(0, 5), 1 + 1 + 10 + 500);
        Check.deal(pit, 0, 1, 5, 1, 200);
        Check.is("today's TRADE is no SETTLE, its lots count", pit.money(0, 4), 2 * 101);
        Check.is("lots: the size", pit.money(1, 5), 2 * (1 + 1 + 20 + 500));
        pit.right(5, 0, 7);
        Check.is("as known now", pit.money(1, 4), 2 * 8);
        pit.strike(0);
        pit.strike(1);
        Check.is("without a POSITION", pit.money(0, 4) + pit.money(0, 5), 0);
    }

    /** "0 if that is below 0"; a RULE goes round as an int, NEED does not. */
    private static void needsThatGoFar() {
        Pit pit = Check.withMembers(2);
        Check.deal(pit, 0, 1, 0, 50, 100);
        Check.deal(pit, 0, 1, 1, 1, 100);
        String[] rules = {"-1", "0", "1", "65536 * 32768", "65536 * 32768 - 1", "month - 1", "1 - month"};
        long[] due = {0, 0, 51, 0, 51L * Integer.MAX_VALUE, 0, 50};
        for (int i = 0; i < rules.length; i++) {
            Check.tell(pit, "first from 0 is " + rules[i] + "; keep from 0 is " + rules[i] + ";");
            for (int member = 0; member < 2; member++) {
                Check.is("NEED by first " + rules[i], pit.money(member, 4), due[i]);
                Check.is("NEED by keep " + rules[i], pit.money(member, 5), due[i]);
            }
        }
    }

    /** "6: FREE RECEIPTS of its own". */
    private static void freeReceipts() {
        Pit pit = Scenes.receipts(60);
        Check.is("all", pit.money(0, 6), 60);
        Check.is("none", pit.money(1, 6), 0);
        Pit busy = Scenes.busy();
        int[] due = {1, 2, 1, 0, 0};
        for (int member = 0; member < 5; member++) {
            Check.is("FREE ones of " + member, busy.money(member, 6), due[member]);
        }
    }

    /** "The POSITION of a MEMBER in a MONTH. NoSuchElementException: none such". */
    private static void positions() {
        Pit pit = Check.withMembers(12);
        for (int i = 0; i < 20; i++) {
            Check.deal(pit, 11, 0, 5, 50, 100);
        }
        Check.is("the last MEMBER, the last MONTH", pit.position(11, 5), 1000);
        Check.is("the first MEMBER", pit.position(0, 5), -1000);
        Check.is("the first MONTH", pit.position(0, 0), 0);
        Check.is("a MEMBER between", pit.position(5, 5), 0);
        Check.is("the bid above cap", pit.order(11, true, 5, 100, 1), -5);
        Check.isMissing("MEMBER 12", () -> pit.position(12, 5));
        Check.isMissing("MEMBER -1", () -> pit.position(-1, 5));
        Check.isMissing("MONTH 6", () -> pit.position(0, 6));
        Check.isMissing("MONTH -1", () -> pit.position(11, -1));
    }

    /** "LONG i of a MONTH, what 0: MEMBER, 1: lots. NONE: none such, another what". */
    private static void longs() {
        Pit pit = Check.withMembers(2);
        Check.is("of none the first", pit.longOf(5, 0, 0), GrainPit.NONE);
        for (int i = 0; i < 50; i++) {
            Check.deal(pit, 1, 0, 5, 1 + i % 19, 100);
        }
        for (int i = 0; i < 50; i++) {
            Check.is("LONG " + i, pit.longOf(5, i, 1), 1 + i % 19);
        }
        Check.is("the last", pit.longOf(5, 49, 0), 1);
        Check.is("one behind", pit.longOf(5, 50, 0), GrainPit.NONE);
        Check.is("one ahead", pit.longOf(5, -1, 0), GrainPit.NONE);
        Check.is("what 2", pit.longOf(5, 49, 2), GrainPit.NONE);
        Check.is("what -1", pit.longOf(5, 49, -1), GrainPit.NONE);
        Check.is("MONTH 6", pit.longOf(6, 0, 0), GrainPit.NONE);
        Check.is("MONTH -1", pit.longOf(-1, 0, 0), GrainPit.NONE);
        Check.is("MONTH 4", pit.longOf(4, 0, 0), GrainPit.NONE);
    }

    /** "What 0 .. 8. NONE for another what". */
    private static void counts() {
        int[] due = {2, 5, 7, 6, 6, 6, 5, 2, 23};
        Pit pit = Scenes.busy();
        for (int what = 0; what <= 8; what++) {
            Check.is("count(" + what + ")", pit.count(what), due[what]);
        }
        Check.is("count(9)", pit.count(9), GrainPit.NONE);
        Check.is("count(-1)", pit.count(-1), GrainPit.NONE);
        Check.is("12 MEMBERS", Check.withMembers(12).count(1), 12);
        Check.is("120 ORDERS", Scenes.waiting(120).count(3), 120);
        Check.is("60 RECEIPTS", Scenes.receipts(60).count(5), 60);
        Check.is("80 NOTICES", Scenes.notices(80).count(6), 80);
        Check.is("40 of them go", Scenes.notices(80).count(7), 40);
        Check.is("600 bytes", Scenes.tape(600).count(8), 600);
        Check.is("DAY 150", Scenes.lastDay().count(0), 150);
    }
}
