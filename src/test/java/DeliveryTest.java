/** Promises 19 to 26: closed months, receipts, notices, squeezes. */
public final class DeliveryTest {
    private DeliveryTest() {
    }

    public static void main(String[] args) {
        closing();
        receipts();
        noticeGoesToTheFirstLong();
        noticeRefuses();
        noticesUpToLotsShort();
        eightyNotices();
        passing();
        passingPaysFee();
        passingWithoutALong();
        passRefuses();
        keeping();
        keepingPaysDiff();
        keptByWhatIsKnown();
        voidByTheKeeper();
        voidByTheShort();
        keepRefuses();
        toldLooks();
        storedLooks();
        squeezes();
        squeezeEdges();
        squeezeRefuses();
        Check.finish("DeliveryTest");
    }

    private static void closing() {
        Pit pit = Check.withMembers(2);
        pit.order(0, true, 1, 50, 1);
        pit.order(1, false, 1, 60, 1);
        pit.order(1, false, 2, 60, 1);
        Check.is("deliver(6)", pit.deliver(6), false);
        Check.is("deliver(-1)", pit.deliver(-1), false);
        Check.is("open", pit.squeeze(1, 0), 0);
        Check.is("deliver(1)", pit.deliver(1), true);
        Check.is("closed", pit.squeeze(1, 0), 1);
        Check.is("another is open", pit.squeeze(2, 0), 0);
        Check.is("again", pit.deliver(1), false);
        Check.is("its orders are gone", pit.count(3), 1);
        Check.is("its bid is gone", pit.waiting(true, 1, 0, 0), GrainPit.NONE);
        Check.is("another's stays", pit.waiting(false, 2, 0, 0), 1);
        Check.is("no new one", pit.order(0, true, 1, 50, 1), -3);
        pit.night();
        Check.is("closed for ever", pit.squeeze(1, 0), 1);
        Check.is("deliver(0)", pit.deliver(0), true);
        Check.is("deliver(5)", pit.deliver(5), true);
    }

    private static void receipts() {
        Pit pit = Check.withMembers(2);
        Check.is("member 2", pit.receipt(2, 0, 0), GrainPit.NONE);
        Check.is("member -1", pit.receipt(-1, 0, 0), GrainPit.NONE);
        Check.is("grade 4", pit.receipt(0, 4, 0), GrainPit.NONE);
        Check.is("grade -1", pit.receipt(0, -1, 0), GrainPit.NONE);
        Check.is("place 4", pit.receipt(0, 0, 4), GrainPit.NONE);
        Check.is("place -1", pit.receipt(0, 0, -1), GrainPit.NONE);
        for (int i = 0; i < 60; i++) {
            Check.is("receipt " + i, pit.receipt(i % 2, i % 4, i / 4 % 4), i);
        }
        Check.is("the 61st", pit.receipt(0, 0, 0), GrainPit.NONE);
        Check.is("count(5)", pit.count(5), 60);
        Check.is("30 are 0's", pit.money(0, 6), 30);
    }

    /** Month 2 is closed with SETTLE 100: 0 is short 5; LONGS: 1 has 2, 2 has 3; receipts 0 to 4 are 0's. */
    private static Pit closedMonth(String rules) {
        Pit pit = Check.withMembers(4);
        if (!rules.isEmpty()) {
            Check.is("rules", Check.tell(pit, rules) > 0, true);
        }
        for (int i = 0; i < 4; i++) {
            pit.pay(i, 1000);
        }
        Check.deal(pit, 1, 0, 2, 2, 100);
        Check.deal(pit, 2, 0, 2, 3, 100);
        for (int i = 0; i < 5; i++) {
            pit.receipt(0, i % 4, (i + 1) % 4);
        }
        pit.night();
        pit.deliver(2);
        return pit;
    }

    private static void noticeGoesToTheFirstLong() {
        Pit pit = closedMonth("");
        Check.is("notice", pit.notice(0, 2, 3), 0);
        Check.is("held", pit.told(0, 0), 1);
        Check.is("by 1", pit.told(0, 1), 1);
        Check.is("receipt is not free", pit.stored(3, 3), 0);
        Check.is("another is free", pit.stored(2, 3), 1);
        Check.is("free ones", pit.money(0, 6), 4);
        Check.is("next notice", pit.notice(0, 2, 1), 1);
        Check.is("by 1, too", pit.told(1, 1), 1);
        Check.is("keep", pit.keep(0), 1);
        Check.is("keep", pit.keep(1), 1);
        Check.is("third", pit.notice(0, 2, 0), 2);
        Check.is("by 2, 1's are gone", pit.told(2, 1), 2);
        Check.is("count(6)", pit.count(6), 3);
        Check.is("count(7)", pit.count(7), 1);
    }

    private static void noticeRefuses() {
        Pit open = Check.withMembers(3);
        open.receipt(0, 0, 0);
        Check.deal(open, 1, 0, 0, 2, 100);
        Check.is("open, no SETTLE", open.notice(0, 0, 0), GrainPit.NONE);
        open.deliver(0);
        Check.is("closed, no SETTLE", open.notice(0, 0, 0), GrainPit.NONE);
        open.night();
        Check.is("closed, with SETTLE", open.notice(0, 0, 0), 0);
        Pit pit = closedMonth("");
        pit.receipt(1, 0, 0);
        pit.receipt(3, 0, 0);
        Check.is("month -1", pit.notice(0, -1, 0), GrainPit.NONE);
        Check.is("month 6", pit.notice(0, 6, 0), GrainPit.NONE);
        Check.is("month 1", pit.notice(0, 1, 0), GrainPit.NONE);
        Check.is("member 4", pit.notice(4, 2, 0), GrainPit.NONE);
        Check.is("member -1", pit.notice(-1, 2, 0), GrainPit.NONE);
        Check.is("a long", pit.notice(1, 2, 5), GrainPit.NONE);
        Check.is("without a position", pit.notice(3, 2, 6), GrainPit.NONE);
        Check.is("another's receipt", pit.notice(0, 2, 5), GrainPit.NONE);
        Check.is("receipt 7", pit.notice(0, 2, 7), GrainPit.NONE);
        Check.is("receipt -1", pit.notice(0, 2, -1), GrainPit.NONE);
        Check.is("count(6)", pit.count(6), 0);
        Check.is("receipts stay free", pit.money(0, 6), 5);
        Check.is("notice", pit.notice(0, 2, 4), 0);
        Check.is("receipt that is not free", pit.notice(0, 2, 4), GrainPit.NONE);
        // a month with SETTLE that is still open
        Check.deal(pit, 1, 0, 3, 1, 100);
        pit.night();
        Check.is("open month", pit.notice(0, 3, 0), GrainPit.NONE);
        pit.deliver(3);
        Check.is("closed then", pit.notice(0, 3, 0), 1);
        // closed without anyone short
        pit.deliver(4);
        Check.is("no SETTLE, no LONG", pit.notice(0, 4, 1), GrainPit.NONE);
    }

    private static void noticesUpToLotsShort() {
        Pit pit = closedMonth("");
        for (int i = 5; i < 8; i++) {
            pit.receipt(0, 0, 0);
        }
        for (int i = 0; i < 5; i++) {
            Check.is("notice " + i, pit.notice(0, 2, i), i);
        }
        Check.is("5 are held for 5 lots", pit.notice(0, 2, 5), GrainPit.NONE);
        Check.is("keep one", pit.keep(0), 1);
        Check.is("4 are held for 4 lots", pit.notice(0, 2, 5), GrainPit.NONE);
        // another month counts by itself
        Check.deal(pit, 1, 0, 1, 2, 100);
        pit.deliver(1);
        pit.night();
        Check.is("of another month", pit.notice(0, 1, 5), 5);
        Check.is("of another month", pit.notice(0, 1, 6), 6);
        Check.is("of another month", pit.notice(0, 1, 7), GrainPit.NONE);
        // two shorts count each by itself
        Pit two = Check.withMembers(3);
        Check.deal(two, 2, 0, 0, 1, 50);
        Check.deal(two, 2, 1, 0, 1, 50);
        for (int i = 0; i < 4; i++) {
            two.receipt(i % 2, 0, 0);
        }
        two.deliver(0);
        two.night();
        Check.is("of 0", two.notice(0, 0, 0), 0);
        Check.is("of 0", two.notice(0, 0, 2), GrainPit.NONE);
        Check.is("of 1", two.notice(1, 0, 1), 1);
        Check.is("of 1", two.notice(1, 0, 3), GrainPit.NONE);
    }

    private static void eightyNotices() {
        Pit pit = Check.withMembers(2);
        Check.deal(pit, 1, 0, 0, 50, 10);
        Check.deal(pit, 1, 0, 0, 10, 10);
        Check.deal(pit, 0, 1, 1, 30, 10);
        pit.night();
        pit.deliver(0);
        pit.deliver(1);
        for (int i = 0; i < 60; i++) {
            pit.receipt(0, 0, 0);
            Check.is("notice " + i, pit.notice(0, 0, i), i);
            Check.is("keep " + i, pit.keep(i), 1);
        }
        for (int i = 0; i < 20; i++) {
            Check.is("notice of 1", pit.notice(1, 1, i), 60 + i);
        }
        Check.is("the 81st", pit.notice(1, 1, 20), GrainPit.NONE);
        Check.is("receipt stays free", pit.stored(20, 3), 1);
        Check.is("count(6)", pit.count(6), 80);
        Check.is("count(7)", pit.count(7), 20);
    }

    private static void passing() {
        // LONGS of month 0: 1 2 1 3 2; 0 is short
        Pit pit = Check.withMembers(5);
        for (int buyer : new int[] {1, 2, 1, 3, 2}) {
            Check.deal(pit, buyer, 0, 0, 1, 100);
        }
        for (int i = 0; i < 3; i++) {
            pit.receipt(0, 0, 0);
        }
        pit.deliver(0);
        pit.night();
        Check.is("notice", pit.notice(0, 0, 0), 0);
        Check.is("1 to 2", pit.pass(0), 2);
        Check.is("held by 2", pit.told(0, 1), 2);
        Check.is("passed once", pit.told(0, 4), 1);
        Check.is("2 to 3, since 1 had it", pit.pass(0), 3);
        Check.is("passed twice", pit.told(0, 4), 2);
        Check.is("behind 3 is only 2, who had it", pit.pass(0), GrainPit.NONE);
        Check.is("held by 3", pit.told(0, 1), 3);
        Check.is("passed twice", pit.told(0, 4), 2);
        Check.is("still held", pit.told(0, 0), 1);
        Check.is("receipt is not free", pit.stored(0, 3), 0);
        Check.is("positions stay", pit.position(3, 0), 1);
        Check.is("another notice goes its own way", pit.notice(0, 0, 1), 1);
        Check.is("from 1", pit.told(1, 1), 1);
        Check.is("to 2", pit.pass(1), 2);
    }

    private static void passingPaysFee() {
        Pit pit = Check.withMembers(4);
        Check.tell(pit, "fee from 0 is 1 + day * 100 + month * 10 + lots * 3 + price + grade + place;");
        for (int buyer = 1; buyer < 4; buyer++) {
            Check.deal(pit, buyer, 0, 2, 1, 100);
        }
        pit.receipt(0, 3, 3);
        pit.deliver(2);
        pit.night();
        pit.notice(0, 2, 0);
        Check.is("notice costs nothing", pit.money(0, 0), 0);
        pit.pass(0);
        Check.is("1 paid", pit.money(1, 0), -121);
        Check.is("2 has it", pit.money(2, 0), 121);
        pit.night();
        pit.pass(0);
        Check.is("2 paid", pit.money(2, 0), 121 - 224);
        Check.is("3 has it", pit.money(3, 0), 224);
        Check.is("refused", pit.pass(0), GrainPit.NONE);
        Check.is("3 pays nothing", pit.money(3, 0), 224);
        Pit other = Check.withMembers(3);
        Check.tell(other, "fee from 0 is -5;");
        Check.deal(other, 1, 0, 0, 1, 100);
        Check.deal(other, 2, 0, 0, 1, 100);
        other.receipt(0, 0, 0);
        other.deliver(0);
        other.night();
        other.notice(0, 0, 0);
        other.pass(0);
        Check.is("a fee below 0", other.money(1, 0), 5);
        Check.is("a fee below 0", other.money(2, 0), -5);
    }

    private static void passingWithoutALong() {
        // LONGS: 1 one lot, 2 one, 3 one; two notices go to 1, it keeps one and has no LONG then
        Pit pit = Check.withMembers(4);
        for (int buyer = 1; buyer < 4; buyer++) {
            Check.deal(pit, buyer, 0, 0, 1, 100);
        }
        for (int i = 0; i < 3; i++) {
            pit.receipt(0, 0, 0);
        }
        pit.deliver(0);
        pit.night();
        pit.notice(0, 0, 0);
        pit.notice(0, 0, 1);
        pit.notice(0, 0, 2);
        Check.is("keep", pit.keep(0), 1);
        Check.is("from the first on", pit.pass(1), 2);
        Check.is("from the first on", pit.pass(2), 2);
        Check.is("behind its own", pit.pass(2), 3);
        Check.is("3 keeps it", pit.keep(2), 1);
        Check.is("behind 2 is nobody", pit.pass(1), GrainPit.NONE);
        Check.is("2 keeps it", pit.keep(1), 1);
        Check.is("0 is not short", pit.position(0, 0), 0);
    }

    private static void passRefuses() {
        Pit pit = closedMonth("");
        Check.is("pass(0)", pit.pass(0), GrainPit.NONE);
        Check.is("pass(-1)", pit.pass(-1), GrainPit.NONE);
        pit.notice(0, 2, 0);
        Check.is("pass(1)", pit.pass(1), GrainPit.NONE);
        pit.keep(0);
        Check.is("kept", pit.pass(0), GrainPit.NONE);
    }

    private static void keeping() {
        Pit pit = closedMonth("");
        pit.notice(0, 2, 1);
        pit.pass(0);
        Check.is("keep", pit.keep(0), 1);
        Check.is("state", pit.told(0, 0), 2);
        Check.is("kept by", pit.told(0, 1), 2);
        Check.is("position of 2", pit.position(2, 2), 2);
        Check.is("position of 0", pit.position(0, 2), -4);
        Check.is("position of 1", pit.position(1, 2), 2);
        Check.is("its LONG", pit.longOf(2, 1, 1), 2);
        Check.is("owner", pit.stored(1, 2), 2);
        Check.is("free", pit.stored(1, 3), 1);
        Check.is("its receipts", pit.money(2, 6), 1);
        Check.is("its money", pit.money(2, 0), 900);
        Check.is("the short's money", pit.money(0, 0), 1100);
        Check.is("worth of 2: a lot at 100 less, 100 paid", pit.money(2, 1), 900);
        Check.is("worth of 0", pit.money(0, 1), 1100);
        Check.is("no trade is numbered", pit.count(2), 2);
        Check.is("count(7)", pit.count(7), 0);
    }

    private static void keepingPaysDiff() {
        Pit pit = closedMonth("diff from 0 is day * 1000 + month * 100 + price + grade * 10 - place + lots;");
        // receipt 1 is of grade 1 and place 2
        pit.notice(0, 2, 1);
        pit.keep(0);
        long sum = 100 + 1000 + 200 + 100 + 10 - 2;
        Check.is("its money", pit.money(1, 0), 1000 - sum);
        Check.is("the short's money", pit.money(0, 0), 1000 + sum);
        Check.tell(pit, "diff from 0 is -150;");
        pit.notice(0, 2, 0);
        pit.keep(1);
        Check.is("its money", pit.money(1, 0), 1000 - sum + 50);
        Check.is("the short's money", pit.money(0, 0), 1000 + sum - 50);
        Check.tell(pit, "diff from 0 is 65536 * 32768 - 1;");
        pit.notice(0, 2, 2);
        pit.keep(2);
        Check.is("does not go round", pit.money(2, 0), 1000 - 100 - (long) Integer.MAX_VALUE);
    }

    private static void keptByWhatIsKnown() {
        Pit pit = closedMonth("");
        pit.notice(0, 2, 1);
        pit.right(2, 0, 130);
        pit.keep(0);
        Check.is("by what was put right", pit.money(1, 0), 870);
        Check.is("worth: 260 less 200 for two lots, one sold at 130, 130 paid", pit.money(1, 1), 1000 + 60 - 130);
        Check.is("worth of the short", pit.money(0, 1), 1000 - 150 + 130);
    }

    private static void voidByTheKeeper() {
        // 1 has one lot and two notices
        Pit pit = Check.withMembers(3);
        Check.deal(pit, 1, 0, 0, 1, 100);
        Check.deal(pit, 2, 0, 0, 1, 100);
        pit.receipt(0, 0, 0);
        pit.receipt(0, 0, 0);
        pit.deliver(0);
        pit.night();
        pit.notice(0, 0, 0);
        pit.notice(0, 0, 1);
        Check.is("keep", pit.keep(1), 1);
        long paid = pit.money(1, 0);
        Check.is("void", pit.keep(0), 0);
        Check.is("state", pit.told(0, 0), 3);
        Check.is("free again", pit.stored(0, 3), 1);
        Check.is("its owner", pit.stored(0, 2), 0);
        Check.is("money stays", pit.money(1, 0), paid);
        Check.is("position stays", pit.position(1, 0), 0);
        Check.is("position stays", pit.position(0, 0), -1);
        Check.is("not held", pit.count(7), 0);
        Check.is("the receipt can go again", pit.notice(0, 0, 0), 2);
        Check.is("to 2", pit.told(2, 1), 2);
    }

    private static void voidByTheShort() {
        // the short comes into default while its notice is held
        Pit pit = Check.withMembers(3);
        Check.tell(pit, "keep from 1 is 10; first from 1 is 10;");
        pit.pay(1, 1000);
        Check.deal(pit, 1, 0, 0, 2, 100);
        Check.deal(pit, 1, 2, 0, 2, 100);
        pit.pay(2, 1000);
        pit.receipt(0, 0, 0);
        pit.deliver(0);
        pit.night();
        Check.is("notice", pit.notice(0, 0, 0), 0);
        pit.night();
        Check.is("default", pit.night(), 1);
        Check.is("the long has lots yet", pit.position(1, 0), 2);
        Check.is("void", pit.keep(0), 0);
        Check.is("state", pit.told(0, 0), 3);
        Check.is("free", pit.stored(0, 3), 1);
        Check.is("owner", pit.stored(0, 2), 0);
        Check.is("money stays", pit.money(1, 0), 1000);
        Check.is("the other short stays", pit.position(2, 0), -2);
    }

    private static void keepRefuses() {
        Pit pit = closedMonth("");
        Check.is("keep(0)", pit.keep(0), GrainPit.NONE);
        Check.is("keep(-1)", pit.keep(-1), GrainPit.NONE);
        pit.notice(0, 2, 0);
        Check.is("keep(1)", pit.keep(1), GrainPit.NONE);
        Check.is("keep", pit.keep(0), 1);
        Check.is("again", pit.keep(0), GrainPit.NONE);
        Check.is("position", pit.position(1, 2), 1);
    }

    private static void toldLooks() {
        Pit pit = closedMonth("");
        pit.notice(0, 2, 3);
        pit.pass(0);
        int[] due = {1, 2, 0, 3, 1, 2};
        for (int what = 0; what < due.length; what++) {
            Check.is("told(0, " + what + ")", pit.told(0, what), due[what]);
        }
        Check.is("told(0, 6)", pit.told(0, 6), GrainPit.NONE);
        Check.is("told(0, -1)", pit.told(0, -1), GrainPit.NONE);
        Check.is("told(1, 0)", pit.told(1, 0), GrainPit.NONE);
        Check.is("told(-1, 0)", pit.told(-1, 0), GrainPit.NONE);
    }

    private static void storedLooks() {
        Pit pit = Check.withMembers(3);
        pit.receipt(1, 0, 3);
        pit.receipt(2, 3, 1);
        int[] due = {3, 1, 2, 1};
        for (int what = 0; what < due.length; what++) {
            Check.is("stored(1, " + what + ")", pit.stored(1, what), due[what]);
        }
        Check.is("stored(0, 1)", pit.stored(0, 1), 3);
        Check.is("stored(0, 4)", pit.stored(0, 4), GrainPit.NONE);
        Check.is("stored(0, -1)", pit.stored(0, -1), GrainPit.NONE);
        Check.is("stored(2, 0)", pit.stored(2, 0), GrainPit.NONE);
        Check.is("stored(-1, 0)", pit.stored(-1, 0), GrainPit.NONE);
    }

    private static void isSqueeze(Pit pit, int month, int due, int corner, int can, int squeezed) {
        Check.is("DUE", pit.squeeze(month, 1), due);
        Check.is("CORNER", pit.squeeze(month, 2), corner);
        Check.is("CAN", pit.squeeze(month, 3), can);
        Check.is("SQUEEZED", pit.squeeze(month, 4), squeezed);
    }

    private static void squeezes() {
        Pit pit = Check.withMembers(4);
        isSqueeze(pit, 0, 0, GrainPit.NONE, 0, 0);
        pit.receipt(1, 0, 0);
        pit.receipt(2, 0, 0);
        isSqueeze(pit, 0, 0, GrainPit.NONE, 2, 0);
        Check.deal(pit, 1, 0, 0, 3, 100);
        isSqueeze(pit, 0, 3, 1, 1, 1);
        Check.deal(pit, 2, 3, 0, 3, 100);
        // both have 3 of 6: the least is CORNER, and has not more than half
        isSqueeze(pit, 0, 6, 1, 1, 0);
        Check.deal(pit, 2, 3, 0, 1, 100);
        isSqueeze(pit, 0, 7, 2, 1, 1);
        isSqueeze(pit, 1, 0, GrainPit.NONE, 2, 0);
    }

    private static void squeezeEdges() {
        // DUE is 2, and 2 receipts can come: not squeezed; one that is not free makes it so
        Pit pit = Check.withMembers(3);
        Check.deal(pit, 1, 0, 0, 2, 100);
        pit.receipt(0, 0, 0);
        isSqueeze(pit, 0, 2, 1, 1, 1);
        pit.receipt(2, 0, 0);
        isSqueeze(pit, 0, 2, 1, 2, 0);
        pit.receipt(1, 0, 0);
        isSqueeze(pit, 0, 2, 1, 2, 0);
        pit.deliver(0);
        pit.night();
        pit.notice(0, 0, 0);
        isSqueeze(pit, 0, 2, 1, 1, 1);
        pit.keep(0);
        isSqueeze(pit, 0, 1, 1, 1, 0);
        // 2 of 3 is more than half, 2 of 4 is not
        Pit half = Check.withMembers(4);
        Check.deal(half, 1, 0, 0, 2, 100);
        Check.deal(half, 2, 0, 0, 1, 100);
        isSqueeze(half, 0, 3, 1, 0, 1);
        Check.deal(half, 3, 0, 0, 1, 100);
        isSqueeze(half, 0, 4, 1, 0, 0);
    }

    private static void squeezeRefuses() {
        Pit pit = Check.withMembers(1);
        Check.is("squeeze(6, 0)", pit.squeeze(6, 0), GrainPit.NONE);
        Check.is("squeeze(-1, 0)", pit.squeeze(-1, 0), GrainPit.NONE);
        Check.is("squeeze(0, 5)", pit.squeeze(0, 5), GrainPit.NONE);
        Check.is("squeeze(0, -1)", pit.squeeze(0, -1), GrainPit.NONE);
    }
}
