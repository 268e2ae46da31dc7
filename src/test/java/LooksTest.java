/** Promises 15 to 18: money, positions, LONGS, counts. */
public final class LooksTest {
    private LooksTest() {
    }

    public static void main(String[] args) {
        money();
        needsByNow();
        worthByLatestSettle();
        moneyRefuses();
        positions();
        longsInOrder();
        longsCoverShortsFirst();
        longsRefuse();
        counts();
        equityIsMoneyPaid();
        Check.finish("LooksTest");
    }

    private static void money() {
        Pit pit = Check.withMembers(3);
        pit.pay(1, 500);
        Check.is("paid", pit.money(1, 0), 500);
        Check.is("worth", pit.money(1, 1), 500);
        Check.is("called", pit.money(1, 2), 0);
        Check.is("default", pit.money(1, 3), 0);
        Check.is("need by first", pit.money(1, 4), 0);
        Check.is("need by keep", pit.money(1, 5), 0);
        Check.is("receipts", pit.money(1, 6), 0);
        pit.receipt(1, 0, 0);
        pit.receipt(2, 0, 0);
        pit.receipt(1, 1, 1);
        Check.is("receipts of 1", pit.money(1, 6), 2);
        Check.is("receipts of 2", pit.money(2, 6), 1);
        Check.is("receipts of 0", pit.money(0, 6), 0);
        Check.is("receipts are no money", pit.money(1, 0), 500);
    }

    private static void needsByNow() {
        Pit pit = Check.withMembers(2);
        Check.tell(pit, "first from 0 is 2 + day * 1000 + month * 100 + price + lots + grade + place;"
                + "keep from 0 is 1 - day * 1000;");
        Check.deal(pit, 0, 1, 1, 4, 50);
        Check.is("without a SETTLE", pit.money(0, 4), 4 * (2 + 100 + 4));
        Check.is("of a short", pit.money(1, 4), 4 * (2 + 100 + 4));
        Check.is("by keep", pit.money(0, 5), 4);
        pit.night();
        Check.is("with SETTLE, on day 1", pit.money(0, 4), 4 * (2 + 1000 + 100 + 50 + 4));
        Check.is("keep below 0", pit.money(0, 5), 0);
        pit.right(1, 0, 60);
        Check.is("with what was put right", pit.money(0, 4), 4 * (2 + 1000 + 100 + 60 + 4));
        Check.deal(pit, 0, 1, 2, 1, 70);
        Check.is("two months", pit.money(0, 4), 4 * (2 + 1000 + 100 + 60 + 4) + (2 + 1000 + 200 + 1));
        Check.tell(pit, "first from 0 is 65536 * 32767;");
        Check.is("does not go round", pit.money(0, 4), 5L * 65536 * 32767);
        Check.tell(pit, "first from 0 is month = 1 ? -7 : 5;");
        Check.is("each month by itself", pit.money(0, 4), 5);
    }

    private static void worthByLatestSettle() {
        Pit pit = Check.withMembers(2);
        pit.pay(0, 1000);
        Check.deal(pit, 0, 1, 0, 3, 100);
        Check.is("no SETTLE counts 0", pit.money(0, 1), 700);
        Check.is("of a short", pit.money(1, 1), 300);
        pit.night();
        Check.is("at SETTLE", pit.money(0, 1), 1000);
        Check.deal(pit, 0, 1, 0, 1, 130);
        Check.is("today's price is none yet", pit.money(0, 1), 1000 + 100 - 130);
        pit.night();
        Check.is("at SETTLE", pit.money(0, 1), 1000 + 4 * 130 - 430);
        pit.right(0, 0, 1);
        Check.is("an older SETTLE put right", pit.money(0, 1), 1000 + 4 * 130 - 430);
        pit.right(0, 1, 140);
        Check.is("the latest put right", pit.money(0, 1), 1000 + 4 * 140 - 430);
        Check.is("of a short", pit.money(1, 1), 430 - 4 * 140);
        Check.is("paid as it was", pit.money(0, 0), 1000);
    }

    private static void moneyRefuses() {
        Pit pit = Check.withMembers(2);
        Check.isMissing("money(2, 0)", () -> pit.money(2, 0));
        Check.isMissing("money(-1, 0)", () -> pit.money(-1, 0));
        Check.isMissing("money(0, 7)", () -> pit.money(0, 7));
        Check.isMissing("money(0, -1)", () -> pit.money(0, -1));
        Check.isMissing("money(most, 6)", () -> pit.money(Integer.MAX_VALUE, 6));
    }

    private static void positions() {
        Pit pit = Check.withMembers(3);
        Check.is("none", pit.position(0, 5), 0);
        Check.deal(pit, 0, 1, 5, 3, 100);
        Check.deal(pit, 1, 2, 5, 5, 100);
        Check.is("0", pit.position(0, 5), 3);
        Check.is("1", pit.position(1, 5), 2);
        Check.is("2", pit.position(2, 5), -5);
        Check.is("another month", pit.position(0, 4), 0);
        Check.isMissing("position(3, 0)", () -> pit.position(3, 0));
        Check.isMissing("position(-1, 0)", () -> pit.position(-1, 0));
        Check.isMissing("position(0, 6)", () -> pit.position(0, 6));
        Check.isMissing("position(0, -1)", () -> pit.position(0, -1));
    }

    private static void isRow(Pit pit, int month, int... row) {
        for (int i = 0; i < row.length; i += 2) {
            Check.is("LONG " + i / 2 + " member", pit.longOf(month, i / 2, 0), row[i]);
            Check.is("LONG " + i / 2 + " lots", pit.longOf(month, i / 2, 1), row[i + 1]);
        }
        Check.is("end of the row", pit.longOf(month, row.length / 2, 0), GrainPit.NONE);
    }

    private static void longsInOrder() {
        Pit pit = Check.withMembers(4);
        Check.deal(pit, 0, 3, 0, 2, 100);
        Check.deal(pit, 1, 3, 0, 3, 100);
        Check.deal(pit, 0, 3, 0, 4, 100);
        Check.deal(pit, 2, 3, 0, 1, 100);
        Check.deal(pit, 0, 3, 0, 5, 100);
        isRow(pit, 0, 0, 2, 1, 3, 0, 4, 2, 1, 0, 5);
        // 0 sells 3 to 1: its first is gone, of its second three are left; 1's come behind
        Check.deal(pit, 1, 0, 0, 3, 100);
        isRow(pit, 0, 1, 3, 0, 3, 2, 1, 0, 5, 1, 3);
        // 0 sells 10: it has 8, the rest makes it short
        Check.deal(pit, 2, 0, 0, 10, 100);
        isRow(pit, 0, 1, 3, 2, 1, 1, 3, 2, 10);
        Check.is("0 is short", pit.position(0, 0), -2);
        isRow(pit, 1);
    }

    private static void longsCoverShortsFirst() {
        Pit pit = Check.withMembers(3);
        Check.deal(pit, 0, 1, 0, 5, 100);
        Check.deal(pit, 1, 2, 0, 3, 100);
        isRow(pit, 0, 0, 5);
        Check.is("1 is short 2", pit.position(1, 0), -2);
        Check.deal(pit, 1, 2, 0, 2, 100);
        isRow(pit, 0, 0, 5);
        Check.deal(pit, 2, 0, 0, 5, 100);
        isRow(pit, 0);
        Check.deal(pit, 1, 2, 0, 1, 100);
        isRow(pit, 0, 1, 1);
        Check.deal(pit, 2, 1, 0, 4, 100);
        isRow(pit, 0, 2, 3);
        Check.is("1 is short 3", pit.position(1, 0), -3);
        Check.is("2", pit.position(2, 0), 3);
    }

    private static void longsRefuse() {
        Pit pit = Check.withMembers(2);
        Check.deal(pit, 0, 1, 0, 2, 100);
        Check.is("what 2", pit.longOf(0, 0, 2), GrainPit.NONE);
        Check.is("what -1", pit.longOf(0, 0, -1), GrainPit.NONE);
        Check.is("i 1", pit.longOf(0, 1, 0), GrainPit.NONE);
        Check.is("i -1", pit.longOf(0, -1, 0), GrainPit.NONE);
        Check.is("month 6", pit.longOf(6, 0, 0), GrainPit.NONE);
        Check.is("month -1", pit.longOf(-1, 0, 0), GrainPit.NONE);
    }

    private static void counts() {
        Pit pit = Check.withMembers(4);
        Check.tell(pit, "cap from 0 is 500; fee from 0 is 1;fee from 1 is 1;");
        Check.deal(pit, 0, 1, 0, 2, 100);
        Check.deal(pit, 2, 1, 0, 2, 100);
        pit.night();
        pit.deliver(0);
        pit.order(0, true, 1, 10, 1);
        pit.order(0, false, 2, 10, 1);
        pit.order(0, false, 2, 11, 1);
        for (int i = 0; i < 5; i++) {
            pit.receipt(1, 0, 0);
        }
        pit.notice(1, 0, 0);
        pit.notice(1, 0, 1);
        pit.notice(1, 0, 2);
        pit.keep(1);
        pit.feed(0, 0, 0, 0, 0);
        pit.end(13);
        int[] due = {1, 4, 2, 3, 3, 5, 3, 2, 13};
        for (int what = 0; what < due.length; what++) {
            Check.is("count(" + what + ")", pit.count(what), due[what]);
        }
        Check.is("count(9)", pit.count(9), GrainPit.NONE);
        Check.is("count(-1)", pit.count(-1), GrainPit.NONE);
    }

    private static void equityIsMoneyPaid() {
        Pit pit = Check.withMembers(4);
        long paid = 0;
        for (int i = 0; i < 4; i++) {
            paid = paid + 100 * i;
            pit.pay(i, 100 * i);
        }
        for (int i = 0; i < 40; i++) {
            pit.order(i % 4, i % 3 == 0, i % 5 % 2, 90 + i * 7 % 20, 1 + i * 5 % 9);
        }
        pit.night();
        pit.strike(1);
        pit.right(0, 0, 77);
        pit.right(1, 0, 133);
        long worth = 0;
        for (int i = 0; i < 4; i++) {
            worth += pit.money(i, 1);
        }
        Check.is("all EQUITY is all MONEY PAID", worth, paid);
    }
}
