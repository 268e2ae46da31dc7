/** The boundary cases of promises 27 to 29 and of Terms 5, each by the sentence that names it. */
public final class TwoTimesEdgesTest {
    private TwoTimesEdgesTest() {
    }

    public static void main(String[] args) {
        aDayThatIsOver();
        pricesPutRight();
        itHadNone();
        hundredWere();
        toldLastUpToThatDay();
        knownOnItsOwnDay();
        fromThatOneUpToToday();
        onlyCopied();
        theDayBeforeTodayAsKnownNow();
        asItWasWhenThatDayEnded();
        aMemberThatCameLater();
        equityWithoutSettles();
        equityOfSuchMembersAndDays();
        theLastDays();
        Check.finish("TwoTimesEdgesTest");
    }

    /** 0 has two lots of 1 in MONTH 0 and in 5, bought at 100 on DAY 0; so many days are over. */
    private static Pit traded(int days) {
        Pit pit = Check.withMembers(2);
        pit.pay(0, 1000);
        pit.pay(1, 1000);
        Check.deal(pit, 0, 1, 0, 2, 100);
        Check.deal(pit, 0, 1, 5, 2, 100);
        for (int day = 0; day < days; day++) {
            pit.night();
        }
        return pit;
    }

    /** "SETTLE of a MONTH on a DAY that is over is put right today .. false: no such MONTH, DAY". */
    private static void aDayThatIsOver() {
        for (int day = -2; day <= 5; day++) {
            Check.is("DAY " + day + " of 3", traded(3).right(0, day, 50), day >= 0 && day <= 2);
        }
        for (int month = -2; month <= 7; month++) {
            Check.is("MONTH " + month, traded(3).right(month, 2, 50), month == 0 || month == 5);
        }
        Check.is("no DAY is over", traded(0).right(0, 0, 50), false);
        Check.is("nor the one ahead", traded(0).right(0, -1, 50), false);
    }

    /** ".. no such PRICE". */
    private static void pricesPutRight() {
        for (int price : new int[] {-1, 0, 1, 2, 9999, 10000, 10001}) {
            boolean fits = price >= 1 && price <= 10000;
            Pit pit = traded(1);
            Check.is("PRICE " + price, pit.right(0, 0, price), fits);
            Check.is("SETTLE", pit.settle(0, 0, 1), fits ? price : 100);
        }
        Pit same = traded(1);
        Check.is("the one it has", same.right(0, 0, 100), true);
        Check.is("SETTLE", same.settle(0, 0, 1), 100);
    }

    /** ".. it had none": on that DAY, whatever came later. */
    private static void itHadNone() {
        Pit pit = Check.withMembers(2);
        pit.night();
        Check.deal(pit, 0, 1, 0, 1, 100);
        pit.night();
        pit.night();
        Check.is("ahead of the first", pit.right(0, 0, 50), false);
        Check.is("the first", pit.right(0, 1, 50), true);
        Check.is("one that was only copied", pit.right(0, 2, 60), true);
        Check.is("a MONTH without any", pit.right(1, 2, 50), false);
        Check.is("none yet", pit.settle(0, 0, 3), GrainPit.NONE);
        Check.is("none yet", pit.settle(1, 2, 3), GrainPit.NONE);
    }

    /** ".. or 100 were": of all MONTHS and DAYS, those that were refused not. */
    private static void hundredWere() {
        Pit pit = traded(2);
        for (int i = 0; i < 100; i++) {
            Check.is("refused ones do not count", pit.right(0, 0, 10001), false);
            Check.is("right " + i, pit.right(i % 2 * 5, i / 2 % 2, 200 + i), true);
        }
        for (int month = 0; month < 6; month += 5) {
            Check.is("the 101st", pit.right(month, 0, 50), false);
            Check.is("the 101st", pit.right(month, 1, 50), false);
        }
        Check.is("the last", pit.settle(5, 1, 2), 299);
        pit.night();
        Check.is("nor a day later", pit.right(0, 2, 50), false);
        Pit last = Scenes.righted(99);
        Check.is("the 100th", last.right(0, 0, 50), true);
        Check.is("counts", last.settle(0, 0, 1), 50);
        Check.is("the 101st", last.right(0, 0, 51), false);
        Check.is("does not", last.settle(0, 0, 1), 50);
    }

    /** "as known on a DAY, the PRICE that was told last up to that DAY (today's are told today)". */
    private static void toldLastUpToThatDay() {
        Pit pit = traded(1);
        pit.right(0, 0, 101);
        pit.right(0, 0, 102);
        pit.night();
        pit.night();
        pit.right(0, 0, 103);
        Check.is("on its own DAY", pit.settle(0, 0, 0), 100);
        Check.is("of two on one DAY the last", pit.settle(0, 0, 1), 102);
        Check.is("a DAY on which none was told", pit.settle(0, 0, 2), 102);
        Check.is("today's", pit.settle(0, 0, 3), 103);
        pit.right(0, 0, 104);
        Check.is("today's last", pit.settle(0, 0, 3), 104);
        Check.is("yesterday knows nothing of it", pit.settle(0, 0, 2), 102);
        pit.night();
        Check.is("a DAY later", pit.settle(0, 0, 4), 104);
        Check.is("as known on its DAY", pit.settle(0, 0, 3), 104);
    }

    /** "else that of its day's end (which is known on its own DAY)". */
    private static void knownOnItsOwnDay() {
        Pit pit = traded(4);
        for (int day = 0; day < 4; day++) {
            for (int known = day; known <= 4; known++) {
                Check.is("DAY " + day + " as known on " + known, pit.settle(0, day, known), 100);
                Check.is("without one", pit.settle(1, day, known), GrainPit.NONE);
            }
        }
    }

    /** "as known on another DAY (from that one up to today): NONE without one, or for others". */
    private static void fromThatOneUpToToday() {
        Pit pit = traded(3);
        for (int day = -1; day <= 4; day++) {
            for (int known = -1; known <= 5; known++) {
                boolean fits = day >= 0 && day <= 2 && known >= day && known <= 3;
                Check.is("DAY " + day + " as known on " + known, pit.settle(5, day, known), fits ? 100 : GrainPit.NONE);
            }
        }
        Check.is("MONTH 6", pit.settle(6, 0, 0), GrainPit.NONE);
        Check.is("MONTH -1", pit.settle(-1, 0, 0), GrainPit.NONE);
        Check.is("no DAY is over", traded(0).settle(0, 0, 0), GrainPit.NONE);
    }

    /** "(One that was only copied is not put right with its model.)" */
    private static void onlyCopied() {
        Pit pit = traded(3);
        pit.right(0, 0, 50);
        Check.is("the model", pit.settle(0, 0, 3), 50);
        Check.is("its copy", pit.settle(0, 1, 3), 100);
        Check.is("the copy's copy", pit.settle(0, 2, 3), 100);
        pit.right(0, 1, 60);
        Check.is("a copy put right", pit.settle(0, 1, 3), 60);
        Check.is("its own copy", pit.settle(0, 2, 3), 100);
        Check.is("its model", pit.settle(0, 0, 3), 50);
        Check.is("the latest", pit.money(0, 1), 1000);
    }

    /** "The latest SETTLE is that of the DAY before today, as known now". */
    private static void theDayBeforeTodayAsKnownNow() {
        Pit pit = traded(2);
        pit.right(0, 0, 50);
        Check.is("not the one ahead of it", pit.money(0, 1), 1000);
        pit.right(0, 1, 60);
        Check.is("the DAY before today", pit.money(0, 1), 1000 - 80);
        pit.night();
        Check.is("copied as known then", pit.settle(0, 2, 2), 60);
        Check.is("and the latest", pit.money(0, 1), 1000 - 80);
        pit.right(0, 1, 70);
        Check.is("not its model any more", pit.money(0, 1), 1000 - 80);
        pit.right(0, 2, 10000);
        Check.is("as known now", pit.money(0, 1), 1000 + 2 * 9900);
        Check.deal(pit, 0, 1, 0, 1, 10000);
        Check.is("today's TRADE is none yet", pit.money(0, 1), 1000 + 2 * 9900);
    }

    /** "MONEY PAID, POSITIONS, COSTS as they were when that DAY ended". */
    private static void asItWasWhenThatDayEnded() {
        Pit pit = traded(1);
        pit.right(0, 0, 110);
        Check.is("as known now", pit.equity(0, 0, 1), 1000 + 20);
        Check.is("as known then", pit.equity(0, 0, 0), 1000);
        pit.pay(0, -999);
        Check.deal(pit, 0, 1, 0, 1, 130);
        pit.strike(0);
        pit.deliver(5);
        pit.receipt(1, 0, 0);
        pit.notice(1, 5, 0);
        pit.keep(0);
        Check.is("nothing of what came later", pit.equity(0, 0, 1), 1000 + 20);
        Check.is("nothing of what came later", pit.equity(1, 0, 1), 1000 - 20);
        pit.night();
        Check.is("nothing of what came later", pit.equity(0, 0, 2), 1000 + 20);
        // DAY 1: paid 1000 - 999 - 100 for the lot kept; one lot at 130, SETTLE 130; one lot at 100
        Check.is("DAY 1", pit.equity(0, 1, 1), 1000 - 999 - 100);
        Check.is("DAY 1 of the other", pit.equity(1, 1, 2), 1000 + 100);
        pit.right(0, 1, 131);
        Check.is("DAY 1 as known now", pit.equity(0, 1, 2), 1000 - 999 - 100 + 1);
        Check.is("as known then", pit.equity(0, 1, 1), 1000 - 999 - 100);
        Check.is("DAY 0 by its own SETTLES", pit.equity(0, 0, 2), 1000 + 20);
    }

    /** "(of a MEMBER that came later nothing of all that)". */
    private static void aMemberThatCameLater() {
        Pit pit = traded(1);
        Check.is("a MEMBER more", pit.member(), 2);
        pit.pay(2, 7);
        Check.is("ahead of its first DAY", pit.equity(2, 0, 0), 0);
        Check.is("ahead of its first DAY", pit.equity(2, 0, 1), 0);
        pit.night();
        Check.is("its first DAY", pit.equity(2, 1, 1), 7);
        Check.is("ahead of it", pit.equity(2, 0, 2), 0);
        Check.isMissing("no such MEMBER", () -> pit.equity(3, 0, 0));
        Pit none = new Pit();
        none.night();
        Check.isMissing("no such MEMBER yet", () -> none.equity(0, 0, 0));
        for (int i = 0; i < 12; i++) {
            none.member();
        }
        Check.is("the first", none.equity(0, 0, 1), 0);
        Check.is("the last", none.equity(11, 0, 1), 0);
        Check.isMissing("one behind", () -> none.equity(12, 0, 1));
    }

    /** A SETTLE that there is not counts 0, and one of a later DAY is not its. */
    private static void equityWithoutSettles() {
        Pit pit = Check.withMembers(2);
        Check.deal(pit, 0, 1, 0, 1, 100);
        pit.strike(0);
        pit.pay(0, 5);
        pit.night();
        Check.deal(pit, 0, 1, 0, 1, 90);
        pit.night();
        Check.is("without a SETTLE", pit.equity(0, 0, 2), 5);
        Check.is("with one", pit.equity(0, 1, 2), 5);
        pit.right(0, 1, 1);
        Check.is("put right", pit.equity(0, 1, 2), 5 - 89);
        Check.is("the DAY ahead", pit.equity(0, 0, 2), 5);
    }

    /** "EQUITY of a MEMBER on a DAY that is over, as known on another DAY (as above). NoSuchElementException: none such". */
    private static void equityOfSuchMembersAndDays() {
        Pit pit = traded(3);
        for (int day = -1; day <= 4; day++) {
            for (int known = -1; known <= 5; known++) {
                int d = day;
                int k = known;
                if (day >= 0 && day <= 2 && known >= day && known <= 3) {
                    Check.is("DAY " + day + " as known on " + known, pit.equity(1, d, k), 1000);
                } else {
                    Check.isMissing("DAY " + day + " as known on " + known, () -> pit.equity(1, d, k));
                }
            }
        }
        Check.isMissing("MEMBER 2", () -> pit.equity(2, 0, 0));
        Check.isMissing("MEMBER -1", () -> pit.equity(-1, 0, 0));
    }

    /** The last DAY that can be over is 149, as known on 150. */
    private static void theLastDays() {
        Pit pit = Scenes.lastDay();
        Check.is("SETTLE of 149", pit.settle(0, 149, 149), 100);
        Check.is("as known on 150", pit.settle(0, 149, 150), 100);
        Check.is("as known on 151", pit.settle(0, 149, 151), GrainPit.NONE);
        Check.is("of 150", pit.settle(0, 150, 150), GrainPit.NONE);
        Check.is("of 0 as known on 150", pit.settle(0, 0, 150), 100);
        Check.is("put right", pit.right(0, 149, 90), true);
        Check.is("not 150", pit.right(0, 150, 90), false);
        Check.is("as known on 150", pit.settle(0, 149, 150), 90);
        Check.is("as known on 149", pit.settle(0, 149, 149), 100);
        Check.is("EQUITY of 149", pit.equity(0, 149, 150), -20);
        Check.is("EQUITY of 149", pit.equity(0, 149, 149), 0);
        Check.isMissing("EQUITY of 150", () -> pit.equity(0, 150, 150));
        Check.isMissing("EQUITY as known on 151", () -> pit.equity(0, 149, 151));
        Check.is("EQUITY now", pit.money(0, 1), -20);
    }
}
