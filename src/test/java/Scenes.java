/** States of an exchange that several tests begin with. */
final class Scenes {
    static final String RULES = "limit from 0 is 50; keep from 0 is 10; first from 0 is 15; cap from 0 is 100;"
            + "diff from 0 is grade * 5 - place; fee from 0 is 2 + lots;";

    private Scenes() {
    }

    /**
     * Something of all there is. Today is day 2. Member 3 is in DEFAULT, 4 is CALLED; month 0 is
     * CLOSED, 0 is short 3 there, the LONGS are (2, 2), (4, 1); NOTICES 0 and 1 are KEPT by 1, 2 is
     * VOID, 3 is HELD by 4 and can't be passed, 4 is HELD by 2; RECEIPTS 2 and 3 are not FREE, 4 is
     * FREE and 0's, 5 is FREE and 2's; TRADES 3 (by 3), 4 (struck), 6 (of today); ORDERS wait in
     * months 1, 2 and 5, and 23 bytes are on THE TAPE.
     */
    static Pit busy() {
        Pit pit = Check.withMembers(5);
        Check.is("rules", Check.tell(pit, RULES), 6);
        int[] paid = {1000, 1000, 1000, 0, 15};
        for (int member = 0; member < 5; member++) {
            pit.pay(member, paid[member]);
        }
        Check.deal(pit, 1, 0, 0, 2, 100);
        Check.deal(pit, 2, 0, 0, 2, 100);
        Check.deal(pit, 4, 0, 0, 1, 100);
        Check.deal(pit, 3, 1, 1, 1, 50);
        Check.deal(pit, 1, 2, 3, 4, 70);
        Check.is("strike", pit.strike(4), true);
        for (int i = 0; i < 5; i++) {
            pit.receipt(0, i % 4, (i + 2) % 4);
        }
        pit.receipt(2, 3, 3);
        Check.is("3 is called", pit.night() + pit.money(3, 2), 1);
        Check.deal(pit, 4, 2, 2, 1, 60);
        deliverBusyMonth(pit);
        Check.is("put right", pit.right(0, 0, 101), true);
        Check.is("3 falls", pit.night(), 1);
        Check.is("put right", pit.right(0, 1, 99), true);
        Check.deal(pit, 1, 2, 5, 2, 80);
        pit.order(0, true, 1, 45, 3);
        pit.order(1, true, 1, 46, 4);
        pit.order(2, false, 2, 65, 5);
        pit.order(0, false, 2, 64, 6);
        pit.order(0, true, 5, 75, 2);
        pit.order(0, false, 5, 85, 1);
        Check.lay(pit, "cap from 2 is 77; fee x");
        return pit;
    }

    private static void deliverBusyMonth(Pit pit) {
        pit.deliver(0);
        for (int i = 0; i < 3; i++) {
            Check.is("notice", pit.notice(0, 0, i), i);
        }
        Check.is("kept", pit.keep(0), 1);
        Check.is("kept", pit.keep(1), 1);
        Check.is("void", pit.keep(2), 0);
        Check.is("notice", pit.notice(0, 0, 3), 3);
        Check.is("passed", pit.pass(3), 4);
        Check.is("notice", pit.notice(0, 0, 2), 4);
    }

    /** The last day there is, with lots long and short and an order that waits. */
    static Pit lastDay() {
        Pit pit = Check.withMembers(2);
        Check.deal(pit, 0, 1, 0, 2, 100);
        for (int day = 0; day < 150; day++) {
            pit.night();
        }
        pit.order(0, true, 0, 50, 1);
        return pit;
    }

    /** So many ORDERS wait, of two members in all months, none of which meet. */
    static Pit waiting(int many) {
        Pit pit = Check.withMembers(2);
        for (int i = 0; i < many; i++) {
            boolean buy = i % 4 < 2;
            Check.is("order " + i, pit.order(i % 2, buy, i % 6, buy ? 10 : 20, 1), 0);
        }
        return pit;
    }

    /** So many RECEIPTS, all of member 0. */
    static Pit receipts(int many) {
        Pit pit = Check.withMembers(2);
        for (int i = 0; i < many; i++) {
            Check.is("receipt " + i, pit.receipt(0, i % 4, i / 4 % 4), i);
        }
        return pit;
    }

    /**
     * So many NOTICES, at least 40: those of 0 in month 0 are KEPT by 1, which has 39 RECEIPTS to
     * tell them again in month 1, where they are HELD by 0. RECEIPT 40 is FREE and 0's, who is short
     * 10 yet.
     */
    static Pit notices(int many) {
        Pit pit = Check.withMembers(2);
        Check.deal(pit, 1, 0, 0, 50, 10);
        Check.deal(pit, 0, 1, 1, 50, 10);
        pit.deliver(0);
        pit.deliver(1);
        pit.night();
        for (int i = 0; i <= 40; i++) {
            pit.receipt(0, 0, 0);
        }
        for (int i = 0; i < 40; i++) {
            Check.is("notice " + i, pit.notice(0, 0, i), i);
            Check.is("keep " + i, pit.keep(i), 1);
        }
        for (int i = 40; i < many; i++) {
            Check.is("notice " + i, pit.notice(1, 1, i - 40), i);
        }
        return pit;
    }

    /** SETTLE of month 0 on day 0 was put right so many times. */
    static Pit righted(int many) {
        Pit pit = Check.withMembers(2);
        Check.deal(pit, 0, 1, 0, 1, 100);
        pit.night();
        for (int i = 0; i < many; i++) {
            Check.is("right " + i, pit.right(0, 0, 200 + i), true);
        }
        return pit;
    }

    /** So many bytes on THE TAPE. */
    static Pit tape(int bytes) {
        Pit pit = new Pit();
        Check.lay(pit, " ".repeat(bytes));
        return pit;
    }
}
