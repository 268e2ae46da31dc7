/** The boundary cases of promises 19 to 26 and of Terms 4, each by the sentence that names it. */
public final class DeliveryEdgesTest {
    private static final String LEAST = "65536 * 32768";
    private static final String MOST = "65536 * 32768 - 1";

    private DeliveryEdgesTest() {
    }

    public static void main(String[] args) {
        closedOnce();
        itsWaitingOrdersAreGone();
        gradesAndPlaces();
        atMostSixtyReceipts();
        aPositionBelowNought();
        aClosedMonthWithASettle();
        aFreeReceiptOfItsOwn();
        theFirstLongsMember();
        asManyAsItHasLotsShort();
        moreHeldThanLotsShort();
        atMostEightyNotices();
        behindTheFirstOneOfItsOwn();
        withoutOneFromTheFirstOn();
        whoHasNotHadIt();
        refusedIfThereIsNoneSuch();
        feesThatGoFar();
        keptWithOneLot();
        keptByTheDiff();
        voidIfNotAboveNought();
        voidIfNotBelowNought();
        whatIsTold();
        whatIsStored();
        dueAndCorner();
        canWithoutTheCorners();
        dueAboveCan();
        moreThanHalfOfDue();
        Check.finish("DeliveryEdgesTest");
    }

    /** "A MONTH is CLOSED: true; false if there is none such, or it is". */
    private static void closedOnce() {
        Pit pit = new Pit();
        Check.is("MONTH -1", pit.deliver(-1), false);
        Check.is("MONTH 6", pit.deliver(6), false);
        for (int month = 0; month < 6; month++) {
            Check.is("open", pit.squeeze(month, 0), 0);
            Check.is("CLOSED", pit.deliver(month), true);
            Check.is("CLOSED", pit.squeeze(month, 0), 1);
            Check.is("not twice", pit.deliver(month), false);
        }
        pit.night();
        for (int month = 0; month < 6; month++) {
            Check.is("not a day later", pit.deliver(month), false);
            Check.is("CLOSED", pit.squeeze(month, 0), 1);
        }
    }

    /** "(then its waiting ORDERS are gone; no new ones)". */
    private static void itsWaitingOrdersAreGone() {
        Pit none = Check.withMembers(1);
        Check.is("none waits", none.deliver(0), true);
        for (int month = 0; month < 6; month++) {
            Pit pit = Scenes.waiting(120);
            pit.deliver(month);
            Check.is("those of five MONTHS wait", pit.count(3), 100);
            for (int other = 0; other < 6; other++) {
                Check.is("bids", pit.waiting(true, other, 9, 1), other == month ? GrainPit.NONE : 10);
                Check.is("offers", pit.waiting(false, other, 9, 1), other == month ? GrainPit.NONE : 20);
                Check.is("the first bid", pit.waiting(true, other, 0, 1), other == month ? GrainPit.NONE : 10);
                Check.is("a new one", pit.order(0, true, other, 1, 1), other == month ? -3 : 0);
            }
        }
    }

    /** "GRADE 0 .. 3, PLACE 0 .. 3, an owner". */
    private static void gradesAndPlaces() {
        Pit pit = Check.withMembers(12);
        int next = 0;
        for (int grade = -1; grade <= 4; grade++) {
            for (int place = -1; place <= 4; place++) {
                boolean fits = grade >= 0 && grade <= 3 && place >= 0 && place <= 3;
                Check.is("GRADE " + grade + ", PLACE " + place, pit.receipt(11, grade, place),
                        fits ? next : GrainPit.NONE);
                if (fits) {
                    Check.is("GRADE", pit.stored(next, 0), grade);
                    Check.is("PLACE", pit.stored(next, 1), place);
                    Check.is("owner", pit.stored(next, 2), 11);
                    Check.is("FREE", pit.stored(next, 3), 1);
                    next++;
                }
            }
        }
        Check.is("of MEMBER 0", pit.receipt(0, 0, 0), next);
        Check.is("of MEMBER 12", pit.receipt(12, 0, 0), GrainPit.NONE);
        Check.is("of MEMBER -1", pit.receipt(-1, 0, 0), GrainPit.NONE);
        Check.is("no more", pit.count(5), next + 1);
    }

    /** "RECEIPTS are numbered, at most 60". */
    private static void atMostSixtyReceipts() {
        Pit pit = Scenes.receipts(59);
        Check.is("a refused one is none", pit.receipt(0, 4, 0), GrainPit.NONE);
        Check.is("the last", pit.receipt(1, 3, 3), 59);
        Check.is("one more", pit.receipt(1, 3, 3), GrainPit.NONE);
        Check.is("there are", pit.count(5), 60);
        Check.is("the last's owner", pit.stored(59, 2), 1);
        Check.is("none behind", pit.stored(60, 0), GrainPit.NONE);
    }

    /** LONGS as told, all from MEMBER 0, one lot each; MONTH 0 is CLOSED, SETTLE 100; 0 has so many RECEIPTS. */
    private static Pit row(int receipts, int... longs) {
        Pit pit = Check.withMembers(12);
        for (int member : longs) {
            Check.deal(pit, member, 0, 0, 1, 100);
        }
        for (int i = 0; i < receipts; i++) {
            pit.receipt(0, i % 4, i / 4 % 4);
        }
        pit.deliver(0);
        pit.night();
        return pit;
    }

    /** "a MEMBER with a POSITION below 0". */
    private static void aPositionBelowNought() {
        Pit pit = Check.withMembers(4);
        Check.deal(pit, 1, 0, 0, 1, 100);
        for (int member = 0; member < 3; member++) {
            pit.receipt(member, 0, 0);
        }
        pit.deliver(0);
        pit.night();
        Check.is("POSITION 1", pit.notice(1, 0, 1), GrainPit.NONE);
        Check.is("POSITION 0", pit.notice(2, 0, 2), GrainPit.NONE);
        Check.is("POSITION -1", pit.notice(0, 0, 0), 0);
    }

    /** "in a CLOSED MONTH with a SETTLE". */
    private static void aClosedMonthWithASettle() {
        Pit pit = Check.withMembers(2);
        pit.receipt(0, 0, 0);
        Check.deal(pit, 1, 0, 5, 1, 100);
        Check.is("open, without", pit.notice(0, 5, 0), GrainPit.NONE);
        pit.night();
        Check.is("open, with a SETTLE", pit.notice(0, 5, 0), GrainPit.NONE);
        pit.deliver(5);
        Check.is("CLOSED, with a SETTLE", pit.notice(0, 5, 0), 0);
        Pit late = Check.withMembers(2);
        late.receipt(0, 0, 0);
        Check.deal(late, 1, 0, 5, 1, 100);
        late.deliver(5);
        Check.is("CLOSED, without", late.notice(0, 5, 0), GrainPit.NONE);
        late.night();
        Check.is("from the day's end on", late.notice(0, 5, 0), 0);
    }

    /** "and a FREE RECEIPT of its own (not FREE then)". */
    private static void aFreeReceiptOfItsOwn() {
        Pit pit = row(2, 1, 1, 1);
        pit.receipt(1, 0, 0);
        Check.is("RECEIPT -1", pit.notice(0, 0, -1), GrainPit.NONE);
        Check.is("RECEIPT 3", pit.notice(0, 0, 3), GrainPit.NONE);
        Check.is("another's", pit.notice(0, 0, 2), GrainPit.NONE);
        Check.is("the last of its own", pit.notice(0, 0, 1), 0);
        Check.is("not FREE then", pit.stored(1, 3), 0);
        Check.is("its own yet", pit.stored(1, 2), 0);
        Check.is("not FREE", pit.notice(0, 0, 1), GrainPit.NONE);
        pit.keep(0);
        Check.is("FREE, and another's", pit.notice(0, 0, 1), GrainPit.NONE);
        Check.is("the first of its own", pit.notice(0, 0, 0), 1);
    }

    /** "it goes to the first LONG's MEMBER". */
    private static void theFirstLongsMember() {
        Pit pit = row(3, 11, 2, 11);
        for (int i = 0; i < 3; i++) {
            int[] first = {11, 2, 11};
            pit.notice(0, 0, i);
            Check.is("the first LONG's", pit.told(i, 1), first[i]);
            Check.is("KEPT", pit.keep(i), 1);
        }
        Check.is("no LONG, and none short", pit.notice(0, 0, 0), GrainPit.NONE);
    }

    /** "(Refused, too, if as many of its NOTICES in this MONTH are HELD as it has lots short.)" */
    private static void asManyAsItHasLotsShort() {
        Pit one = row(2, 1);
        Check.is("one for one lot", one.notice(0, 0, 0), 0);
        Check.is("not two", one.notice(0, 0, 1), GrainPit.NONE);
        Check.is("KEPT", one.keep(0), 1);
        Check.is("no lot is short", one.notice(0, 0, 1), GrainPit.NONE);
        // 1 has one lot and both NOTICES: what is VOID is not HELD any more, and the lot is short yet
        Pit two = row(3, 1, 2);
        Check.is("the first of two", two.notice(0, 0, 0), 0);
        Check.is("the second of two", two.notice(0, 0, 1), 1);
        Check.is("not three", two.notice(0, 0, 2), GrainPit.NONE);
        Check.is("KEPT", two.keep(0), 1);
        Check.is("one HELD, one lot short", two.notice(0, 0, 2), GrainPit.NONE);
        Check.is("VOID", two.keep(1), 0);
        Check.is("none HELD, one lot short", two.notice(0, 0, 2), 2);
        Check.is("one HELD, one lot short", two.notice(0, 0, 1), GrainPit.NONE);
    }

    /** More are HELD than lots are short, once another's DEFAULT made the short less. */
    private static void moreHeldThanLotsShort() {
        Pit pit = row(4, 1, 1, 2);
        for (int i = 0; i < 3; i++) {
            pit.notice(0, 0, i);
        }
        pit.pay(1, -1);
        pit.night();
        Check.is("1 falls", pit.night(), 1);
        Check.is("one lot is short", pit.position(0, 0), -1);
        Check.is("three are HELD", pit.count(7), 3);
        Check.is("no more", pit.notice(0, 0, 3), GrainPit.NONE);
        Check.is("1 has none: VOID", pit.keep(0), 0);
        Check.is("two are HELD", pit.notice(0, 0, 3), GrainPit.NONE);
        Check.is("VOID", pit.keep(1), 0);
        Check.is("one is HELD", pit.notice(0, 0, 3), GrainPit.NONE);
        Check.is("VOID", pit.keep(2), 0);
        Check.is("none is HELD", pit.notice(0, 0, 3), 3);
        Check.is("the first LONG's now", pit.told(3, 1), 2);
    }

    /** "A NOTICE (at most 80)". */
    private static void atMostEightyNotices() {
        Pit pit = Scenes.notices(79);
        Check.is("a refused one is none", pit.notice(0, 0, 41), GrainPit.NONE);
        Check.is("the last", pit.notice(0, 0, 40), 79);
        Check.is("there are", pit.count(6), 80);
        Check.is("KEPT", pit.keep(79), 1);
        Check.is("the receipt is FREE, and 1's", pit.stored(40, 2), 1);
        Check.is("one more", pit.notice(1, 1, 40), GrainPit.NONE);
        Check.is("none behind", pit.told(80, 0), GrainPit.NONE);
        Check.is("none behind", pit.keep(80), GrainPit.NONE);
        Check.is("the last", pit.told(79, 0), 2);
    }

    private static void goes(Pit pit, int... holders) {
        int notice = pit.notice(0, 0, 0);
        Check.is("HELD by", pit.told(notice, 1), holders[0]);
        for (int i = 1; i < holders.length; i++) {
            Check.is("passed", pit.pass(notice), holders[i]);
            Check.is("HELD by", pit.told(notice, 1), holders[i]);
            Check.is("how often", pit.told(notice, 4), i);
        }
        Check.is("nobody is left", pit.pass(notice), GrainPit.NONE);
        Check.is("HELD by", pit.told(notice, 1), holders[holders.length - 1]);
        Check.is("how often", pit.told(notice, 4), holders.length - 1);
        Check.is("HELD", pit.told(notice, 0), 1);
    }

    /** "to the MEMBER of the next LONG in the row, behind the first one of its own". */
    private static void behindTheFirstOneOfItsOwn() {
        goes(row(1, 1), 1);
        goes(row(1, 1, 1, 1), 1);
        goes(row(1, 1, 2), 1, 2);
        goes(row(1, 1, 1, 2), 1, 2);
        goes(row(1, 1, 2, 1, 3), 1, 2, 3);
        goes(row(1, 1, 2, 3, 2, 4), 1, 2, 3, 4);
        goes(row(1, 2, 1), 2, 1);
        goes(row(1, 1, 2, 3, 4, 5, 6, 7, 8, 9, 10, 11), 1, 2, 3, 4, 5, 6, 7, 8, 9, 10, 11);
        goes(row(1, 11, 10, 11, 10, 9), 11, 10, 9);
    }

    /** "(without one: from the first on)". */
    private static void withoutOneFromTheFirstOn() {
        Pit pit = row(4, 1, 2, 3, 2);
        for (int i = 0; i < 4; i++) {
            pit.notice(0, 0, i);
        }
        Check.is("1 passes one", pit.pass(3), 2);
        Check.is("1 keeps one, and has no LONG", pit.keep(0), 1);
        Check.is("from the first on: 2", pit.pass(1), 2);
        Check.is("2 keeps it", pit.keep(1), 1);
        // the row is 3, 2: behind 2's first one is nobody; from the first on of 1 it is 3
        Check.is("1 without a LONG", pit.pass(2), 3);
        Check.is("3 to 2, behind its own", pit.pass(2), 2);
        Check.is("2 has a LONG, nobody is behind", pit.pass(2), GrainPit.NONE);
        Check.is("nor for the other", pit.pass(3), GrainPit.NONE);
        Check.is("2 keeps one more, and has no LONG", pit.keep(2), 1);
        Check.is("from the first on: 3", pit.pass(3), 3);
        Check.is("3 keeps it", pit.keep(3), 1);
        Check.is("the row is empty", pit.longOf(0, 0, 0), GrainPit.NONE);
    }

    /** "who has not had this NOTICE": each NOTICE by itself. */
    private static void whoHasNotHadIt() {
        Pit pit = row(3, 1, 2, 3);
        pit.notice(0, 0, 0);
        pit.notice(0, 0, 1);
        pit.notice(0, 0, 2);
        Check.is("1 keeps one", pit.keep(2), 1);
        Check.is("1 has no LONG: to 2", pit.pass(0), 2);
        Check.is("2 keeps it", pit.keep(0), 1);
        Check.is("1 has no LONG: to 3, since 2 has none", pit.pass(1), 3);
        Check.is("3 is the last", pit.pass(1), GrainPit.NONE);
        Check.is("3 keeps it", pit.keep(1), 1);
    }

    /** "Refused if there is none such": the fee is not paid then. */
    private static void refusedIfThereIsNoneSuch() {
        Pit pit = row(1, 1, 2);
        Check.tell(pit, "fee from 0 is 5;");
        pit.notice(0, 0, 0);
        Check.is("to 2", pit.pass(0), 2);
        Check.is("none such", pit.pass(0), GrainPit.NONE);
        Check.is("1 paid once", pit.money(1, 0), -5);
        Check.is("2 has it", pit.money(2, 0), 5);
        Check.is("none behind", pit.pass(1), GrainPit.NONE);
        Check.is("none ahead", pit.pass(-1), GrainPit.NONE);
    }

    /** "it pays fee (WORDS day, month, lots: how often it was passed ahead) to that one". */
    private static void feesThatGoFar() {
        String[] rules = {"0", "1", "-1", LEAST, MOST, "price + grade + place", "day * 10 + month + lots"};
        long[] due = {0, 1, -1, Integer.MIN_VALUE, Integer.MAX_VALUE, 0, 10};
        for (int i = 0; i < rules.length; i++) {
            Pit pit = row(1, 1, 2, 3);
            Check.tell(pit, "fee from 0 is " + rules[i] + ";");
            pit.notice(0, 0, 0);
            pit.pass(0);
            Check.is("who passed by " + rules[i], pit.money(1, 0), -due[i]);
            Check.is("who holds by " + rules[i], pit.money(2, 0), due[i]);
        }
        Pit pit = row(1, 1, 2, 3, 4);
        Check.tell(pit, "fee from 0 is lots = 0 ? 100 : lots;");
        pit.notice(0, 0, 0);
        pit.pass(0);
        pit.pass(0);
        pit.pass(0);
        long[] paid = {0, -100, 100 - 1, 1 - 2, 2};
        for (int member = 0; member < 5; member++) {
            Check.is("PAID of " + member, pit.money(member, 0), paid[member]);
        }
        Pit without = row(1, 1, 2);
        without.notice(0, 0, 0);
        without.pass(0);
        Check.is("without a RULE", without.money(1, 0), 0);
    }

    /** "KEEPS it: the short buys one lot from who keeps, at SETTLE (both POSITIONS are one less in size)". */
    private static void keptWithOneLot() {
        Pit pit = row(1, 1);
        pit.notice(0, 0, 0);
        Check.is("the last lot of both", pit.keep(0), 1);
        Check.is("POSITION", pit.position(0, 0), 0);
        Check.is("POSITION", pit.position(1, 0), 0);
        Check.is("no LONG", pit.longOf(0, 0, 0), GrainPit.NONE);
        Check.is("none is numbered", pit.count(2), 1);
        Check.is("the RECEIPT is the keeper's", pit.stored(0, 2), 1);
        Check.is("FREE", pit.stored(0, 3), 1);
        Check.is("the keeper has it", pit.money(1, 6), 1);
        Check.is("the short has none", pit.money(0, 6), 0);
        Check.is("not twice", pit.keep(0), GrainPit.NONE);
        Check.is("none behind", pit.keep(1), GrainPit.NONE);
        Check.is("none ahead", pit.keep(-1), GrainPit.NONE);
        Check.is("PAID once", pit.money(0, 0), 100);
        Pit many = row(1, 2, 1, 2);
        many.notice(0, 0, 0);
        many.pass(0);
        many.keep(0);
        Check.is("of the keeper's LONG alone", many.longOf(0, 0, 0), 2);
        Check.is("of the keeper's LONG alone", many.longOf(0, 1, 0), 2);
        Check.is("two are left", many.longOf(0, 2, 0), GrainPit.NONE);
    }

    /** "MONEY: SETTLE and diff (WORDS day, month, price: SETTLE, grade, place), by the one who keeps to the short". */
    private static void keptByTheDiff() {
        String[] rules = {"0", "1", "-100", "-101", LEAST, MOST, "price", "day * 10 + month + lots", "grade * 10 + place"};
        long[] due = {0, 1, -100, -101, Integer.MIN_VALUE, Integer.MAX_VALUE, 100, 10, 31};
        for (int i = 0; i < rules.length; i++) {
            Pit pit = row(8, 1, 1);
            Check.tell(pit, "diff from 0 is " + rules[i] + ";");
            pit.notice(0, 0, 7);
            pit.keep(0);
            Check.is("who kept by " + rules[i], pit.money(1, 0), -100 - due[i]);
            Check.is("the short by " + rules[i], pit.money(0, 0), 100 + due[i]);
        }
        for (int settle : new int[] {1, 10000}) {
            Pit pit = row(1, 1);
            Check.tell(pit, "diff from 0 is price;");
            pit.right(0, 0, settle);
            pit.notice(0, 0, 0);
            pit.keep(0);
            Check.is("SETTLE " + settle + " as known now", pit.money(0, 0), 2 * settle);
            Check.is("and the lot at it", pit.money(0, 1), 2 * settle + 100 - settle);
        }
    }

    /** "If the POSITION of who keeps is not above 0 then .. it is VOID: the RECEIPT is FREE again, nothing else". */
    private static void voidIfNotAboveNought() {
        Pit pit = row(2, 1, 2);
        Check.tell(pit, "diff from 0 is 7; fee from 0 is 9;");
        pit.notice(0, 0, 0);
        pit.notice(0, 0, 1);
        Check.is("POSITION 1", pit.keep(0), 1);
        long paid = pit.money(0, 0);
        Check.is("POSITION 0", pit.keep(1), 0);
        Check.is("VOID", pit.told(1, 0), 3);
        Check.is("HELD last by", pit.told(1, 1), 1);
        Check.is("the RECEIPT is FREE", pit.stored(1, 3), 1);
        Check.is("and the short's", pit.stored(1, 2), 0);
        Check.is("PAID", pit.money(0, 0), paid);
        Check.is("PAID", pit.money(1, 0), -107);
        Check.is("POSITION", pit.position(0, 0), -1);
        Check.is("POSITION", pit.position(1, 0), 0);
        Check.is("the other's LONG", pit.longOf(0, 0, 0), 2);
        Check.is("not twice", pit.keep(1), GrainPit.NONE);
        Check.is("not passed", pit.pass(1), GrainPit.NONE);
    }

    /** ".. or the short's not below 0". */
    private static void voidIfNotBelowNought() {
        // 0 is short one lot, 3 one; LONGS 1, 2; 0 falls while its NOTICE goes
        Pit pit = Check.withMembers(4);
        Check.deal(pit, 1, 0, 0, 1, 100);
        Check.deal(pit, 2, 3, 0, 1, 100);
        pit.receipt(0, 0, 0);
        pit.deliver(0);
        pit.night();
        pit.notice(0, 0, 0);
        Check.is("to 2", pit.pass(0), 2);
        pit.pay(0, -1);
        pit.night();
        Check.is("0 falls", pit.night(), 1);
        Check.is("by 1's lot", pit.position(1, 0), 0);
        Check.is("who keeps has one", pit.position(2, 0), 1);
        Check.is("VOID", pit.keep(0), 0);
        Check.is("the RECEIPT is FREE", pit.stored(0, 3), 1);
        Check.is("and the short's", pit.stored(0, 2), 0);
        Check.is("who keeps has it yet", pit.position(2, 0), 1);
        Check.is("PAID", pit.money(2, 0), 0);
    }

    /** "STATE: 1 HELD, 2 KEPT, 3 VOID" and what else; "NONE: none such, another what". */
    private static void whatIsTold() {
        Pit pit = Scenes.busy();
        int[][] due = {{2, 1, 0, 0, 0, 0}, {2, 1, 0, 1, 0, 0}, {3, 1, 0, 2, 0, 0}, {1, 4, 0, 3, 1, 0}, {1, 2, 0, 2, 0, 0}};
        for (int notice = 0; notice < due.length; notice++) {
            for (int what = 0; what < 6; what++) {
                Check.is("told(" + notice + ", " + what + ")", pit.told(notice, what), due[notice][what]);
            }
            Check.is("what 6", pit.told(notice, 6), GrainPit.NONE);
            Check.is("what -1", pit.told(notice, -1), GrainPit.NONE);
        }
        Check.is("none behind", pit.told(5, 0), GrainPit.NONE);
        Check.is("none ahead", pit.told(-1, 0), GrainPit.NONE);
    }

    /** "what 0: GRADE, 1: PLACE, 2: owner, 3: whether it is FREE (1, 0). NONE: none such, another what". */
    private static void whatIsStored() {
        Pit pit = Scenes.busy();
        int[][] due = {{0, 2, 1, 1}, {1, 3, 1, 1}, {2, 0, 0, 0}, {3, 1, 0, 0}, {0, 2, 0, 1}, {3, 3, 2, 1}};
        for (int receipt = 0; receipt < due.length; receipt++) {
            for (int what = 0; what < 4; what++) {
                Check.is("stored(" + receipt + ", " + what + ")", pit.stored(receipt, what), due[receipt][what]);
            }
            Check.is("what 4", pit.stored(receipt, 4), GrainPit.NONE);
            Check.is("what -1", pit.stored(receipt, -1), GrainPit.NONE);
        }
        Check.is("none behind", pit.stored(6, 0), GrainPit.NONE);
        Check.is("none ahead", pit.stored(-1, 0), GrainPit.NONE);
    }

    /** POSITIONS in MONTH 5, the last MEMBER against all; RECEIPTS of each MEMBER. */
    private static Pit standing(int[] lots, int... receipts) {
        Pit pit = Check.withMembers(lots.length + 1);
        for (int i = 0; i < lots.length; i++) {
            if (lots[i] != 0) {
                Check.deal(pit, lots[i] > 0 ? i : lots.length, lots[i] > 0 ? lots.length : i, 5, Math.abs(lots[i]), 100);
            }
        }
        for (int i = 0; i < receipts.length; i++) {
            for (int n = 0; n < receipts[i]; n++) {
                pit.receipt(i, 0, 0);
            }
        }
        return pit;
    }

    private static void isSqueeze(Pit pit, int due, int corner, int can, int squeezed) {
        Check.is("DUE", pit.squeeze(5, 1), due);
        Check.is("CORNER", pit.squeeze(5, 2), corner);
        Check.is("CAN", pit.squeeze(5, 3), can);
        Check.is("SQUEEZED", pit.squeeze(5, 4), squeezed);
    }

    /** "DUE: the sum of POSITIONS below 0 in size. CORNER: the MEMBER with the greatest POSITION above 0 (the least such)". */
    private static void dueAndCorner() {
        isSqueeze(new Pit(), 0, GrainPit.NONE, 0, 0);
        isSqueeze(standing(new int[] {0, 0}), 0, GrainPit.NONE, 0, 0);
        isSqueeze(standing(new int[] {1}), 1, 0, 0, 1);
        isSqueeze(standing(new int[] {-1}), 1, 1, 0, 1);
        isSqueeze(standing(new int[] {2, 2, -1}), 4, 0, 0, 0);
        isSqueeze(standing(new int[] {1, 2, 2}), 5, 1, 0, 0);
        isSqueeze(standing(new int[] {-3, 2, 2, -1}), 4, 1, 0, 0);
        isSqueeze(standing(new int[] {-3, -2, 1, 1}), 5, 4, 0, 1);
        isSqueeze(standing(new int[] {0, 0, 0, 0, 0, 0, 0, 0, 0, 0, 50}), 50, 10, 0, 1);
        isSqueeze(standing(new int[] {0, 0, 0, 0, 0, 0, 0, 0, 0, 0, -50}), 50, 11, 0, 1);
        for (int month = 0; month < 5; month++) {
            Check.is("of another MONTH none", standing(new int[] {1}).squeeze(month, 2), GrainPit.NONE);
        }
    }

    /** "CAN: FREE RECEIPTS whose owner is not CORNER"; "(all FREE ones without a CORNER)". */
    private static void canWithoutTheCorners() {
        isSqueeze(standing(new int[] {0, 0}, 3, 2, 1), 0, GrainPit.NONE, 6, 0);
        isSqueeze(standing(new int[] {5, -5}, 3, 0, 0), 5, 0, 0, 1);
        isSqueeze(standing(new int[] {5, -5}, 3, 2, 1), 5, 0, 3, 1);
        isSqueeze(standing(new int[] {5, -5}, 0, 2, 1), 5, 0, 3, 1);
        Pit pit = row(2, 1, 1);
        Check.is("both are FREE", pit.squeeze(0, 3), 2);
        pit.notice(0, 0, 0);
        Check.is("one is not FREE", pit.squeeze(0, 3), 1);
        pit.keep(0);
        Check.is("FREE, and CORNER's", pit.squeeze(0, 3), 1);
        Check.is("of a MONTH without a CORNER", pit.squeeze(1, 3), 2);
    }

    /** "SQUEEZED: DUE is above CAN": a step on either side. */
    private static void dueAboveCan() {
        isSqueeze(standing(new int[] {5, -5}, 0, 4), 5, 0, 4, 1);
        isSqueeze(standing(new int[] {5, -5}, 0, 5), 5, 0, 5, 0);
        isSqueeze(standing(new int[] {5, -5}, 0, 6), 5, 0, 6, 0);
        isSqueeze(standing(new int[] {5, -5}, 60), 5, 0, 0, 1);
        isSqueeze(standing(new int[] {1, -1}, 0, 1), 1, 0, 1, 0);
        isSqueeze(standing(new int[] {1, -1}, 0, 0), 1, 0, 0, 1);
    }

    /** "and CORNER has more than half of DUE": a step on either side. */
    private static void moreThanHalfOfDue() {
        isSqueeze(standing(new int[] {2, 2, -4}), 4, 0, 0, 0);
        isSqueeze(standing(new int[] {3, 1, -4}), 4, 0, 0, 1);
        isSqueeze(standing(new int[] {2, 1, -3}), 3, 0, 0, 1);
        isSqueeze(standing(new int[] {1, 1, 1, -3}), 3, 0, 0, 0);
        isSqueeze(standing(new int[] {2, 2, 1, -5}), 5, 0, 0, 0);
        isSqueeze(standing(new int[] {3, 2, -5}), 5, 0, 0, 1);
        isSqueeze(standing(new int[] {25, 25, -50}), 50, 0, 0, 0);
        isSqueeze(standing(new int[] {26, 24, -50}), 50, 0, 0, 1);
    }
}
