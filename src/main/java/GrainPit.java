import java.util.ArrayList;
import java.util.Arrays;
import java.util.NoSuchElementException;

/**
 * A grain exchange: orders, trades, margins by rules that are texts, defaults, delivery by notices,
 * and day prices that can be put right later. ../shared/DOC.md says what each call answers; words
 * in capitals are that document's.
 */
public final class GrainPit {
    public static final int NONE = -1;

    private static final int MONTHS = 6;
    private static final int LAST_DAY = 150;
    private static final int MOST_MEMBERS = 12;
    private static final int MOST_PRICE = 10000;
    private static final int MOST_LOTS = 50;
    private static final int MOST_PAYMENT = 1000000;
    private static final int MOST_WAITING = 120;
    private static final int MOST_TRADES = 700;
    private static final int MOST_RECEIPTS = 60;
    private static final int MOST_NOTICES = 80;
    private static final int MOST_RIGHTED = 100;
    private static final int MOST_GRADE = 3;
    private static final int MOST_PLACE = 3;

    private static final int LIMIT = 0;
    private static final int FIRST = 1;
    private static final int KEEP = 2;
    private static final int CAP = 3;
    private static final int DIFF = 4;
    private static final int FEE = 5;

    private static final int HELD = 1;
    private static final int KEPT = 2;
    private static final int VOID = 3;

    private final Reader reader;
    private final Rulebook rulebook;
    private final Month[] months;
    private final ArrayList<Member> members;
    private final ArrayList<Trade> trades;
    private final ArrayList<Receipt> receipts;
    private final ArrayList<Notice> notices;
    /** The days that are over; while a day ends it is among them already, so its SETTLES are the latest. */
    private final ArrayList<Day> days;
    private int today;
    private int ordersSoFar;
    private int rightedSoFar;

    public GrainPit() {
        reader = new Reader();
        rulebook = new Rulebook();
        months = new Month[MONTHS];
        for (int m = 0; m < MONTHS; m++) {
            months[m] = new Month();
        }
        members = new ArrayList<>();
        trades = new ArrayList<>();
        receipts = new ArrayList<>();
        notices = new ArrayList<>();
        days = new ArrayList<>();
    }

    // ---- texts

    public int feed(int a, int b, int c, int d, int e) {
        if (!reader.hasRoomForFive()) {
            return NONE;
        }
        reader.append(a);
        reader.append(b);
        reader.append(c);
        reader.append(d);
        reader.append(e);
        return reader.length;
    }

    public boolean end(int n) {
        if (n < 0 || n > reader.length) {
            return false;
        }
        reader.length = n;
        return true;
    }

    public int rules() {
        return reader.readText(rulebook.all);
    }

    public int fault(int what) {
        switch (what) {
            case 0:
                return reader.faultNumber;
            case 1:
                return reader.faultPlace;
            default:
                return NONE;
        }
    }

    public int rule(int name, int day, int month, int price, int lots, int grade, int place)
            throws NoSuchElementException {
        if (name < LIMIT || name > FEE || day < 0 || day > LAST_DAY) {
            throw new NoSuchElementException("no such name or day");
        }
        return rulebook.valueOf(name, day, month, price, lots, grade, place);
    }

    // ---- members, orders, trades

    public int member() {
        if (members.size() >= MOST_MEMBERS) {
            return NONE;
        }
        members.add(new Member());
        return members.size() - 1;
    }

    public long pay(int member, int v) throws NoSuchElementException {
        Member payer = memberOf(member);
        if (payer == null || v < -MOST_PAYMENT || v > MOST_PAYMENT) {
            throw new NoSuchElementException("no such member or payment");
        }
        payer.paid += v;
        return payer.paid;
    }

    public int order(int member, boolean buy, int month, int price, int lots) {
        int reason = reasonAgainst(member, buy, month, price, lots);
        if (reason != 0) {
            return -1 - reason;
        }
        int left = fill(member, buy, month, price, lots);
        if (left > 0 && trades.size() < MOST_TRADES) {
            months[month].queue(buy, new Stake(member, left, price, ordersSoFar));
            ordersSoFar++;
        }
        return lots - left;
    }

    public int cancel(int member, int month) {
        return isMonth(month) ? months[month].dropLatest(member) : NONE;
    }

    public int waiting(boolean buy, int month, int i, int what) {
        if (!isMonth(month)) {
            return NONE;
        }
        ArrayList<Stake> side = months[month].side(buy);
        if (i < 0 || i >= side.size()) {
            return NONE;
        }
        Stake stake = side.get(i);
        switch (what) {
            case 0:
                return stake.member;
            case 1:
                return stake.price;
            case 2:
                return stake.lots;
            default:
                return NONE;
        }
    }

    public int trade(int t, int what) {
        Trade deal = tradeOf(t);
        if (deal == null) {
            return NONE;
        }
        switch (what) {
            case 0:
                return deal.month;
            case 1:
                return deal.price;
            case 2:
                return deal.lots;
            case 3:
                return deal.buyer;
            case 4:
                return deal.seller;
            case 5:
                return deal.day;
            case 6:
                return deal.struck ? 1 : 0;
            default:
                return NONE;
        }
    }

    public boolean strike(int t) {
        Trade deal = tradeOf(t);
        if (deal == null || deal.struck || months[deal.month].closed
                || inDefault(deal.buyer) || inDefault(deal.seller)) {
            return false;
        }
        deal.struck = true;
        exchange(deal.seller, deal.buyer, deal.month, deal.lots, deal.price);
        return true;
    }

    public int night() {
        if (today >= LAST_DAY) {
            return NONE;
        }
        Day day = new Day(members.size());
        for (int m = 0; m < MONTHS; m++) {
            months[m].dropAll();
            int price = endPrice(m);
            day.settles[m] = price == 0 ? null : new Settle(price, today, null);
        }
        days.add(day);
        int fallen = 0;
        for (int i = 0; i < members.size(); i++) {
            if (fallsTonight(members.get(i))) {
                closeOut(i);
                fallen++;
            }
        }
        rememberMembers(day);
        today++;
        return fallen;
    }

    // ---- looks

    public long money(int member, int what) throws NoSuchElementException {
        Member owner = memberOf(member);
        if (owner == null || what < 0 || what > 6) {
            throw new NoSuchElementException("no such member or look");
        }
        switch (what) {
            case 0:
                return owner.paid;
            case 1:
                return worthOf(owner);
            case 2:
                return owner.called ? 1 : 0;
            case 3:
                return owner.failed ? 1 : 0;
            case 4:
                return needOf(owner, FIRST);
            case 5:
                return needOf(owner, KEEP);
            default:
                return freeReceiptsOf(member);
        }
    }

    public int position(int member, int month) throws NoSuchElementException {
        Member owner = memberOf(member);
        if (owner == null || !isMonth(month)) {
            throw new NoSuchElementException("no such member or month");
        }
        return owner.positions[month];
    }

    public int longOf(int month, int i, int what) {
        if (!isMonth(month) || i < 0 || i >= months[month].longs.size()) {
            return NONE;
        }
        Stake stake = months[month].longs.get(i);
        switch (what) {
            case 0:
                return stake.member;
            case 1:
                return stake.lots;
            default:
                return NONE;
        }
    }

    public int count(int what) {
        switch (what) {
            case 0:
                return today;
            case 1:
                return members.size();
            case 2:
                return trades.size();
            case 3:
                return allWaiting();
            case 4:
                return rulebook.all.size();
            case 5:
                return receipts.size();
            case 6:
                return notices.size();
            case 7:
                return allHeld();
            case 8:
                return reader.length;
            default:
                return NONE;
        }
    }

    // ---- delivery

    public boolean deliver(int month) {
        if (!isMonth(month) || months[month].closed) {
            return false;
        }
        months[month].closed = true;
        months[month].dropAll();
        return true;
    }

    public int receipt(int member, int grade, int place) {
        if (memberOf(member) == null || grade < 0 || grade > MOST_GRADE
                || place < 0 || place > MOST_PLACE || receipts.size() >= MOST_RECEIPTS) {
            return NONE;
        }
        receipts.add(new Receipt(member, grade, place));
        return receipts.size() - 1;
    }

    public int notice(int member, int month, int receipt) {
        Member giver = memberOf(member);
        Receipt paper = receiptOf(receipt);
        if (giver == null || !isMonth(month) || paper == null || !paper.free
                || paper.owner != member || notices.size() >= MOST_NOTICES) {
            return NONE;
        }
        Month due = months[month];
        if (!due.closed || latestPrice(month) == 0 || due.longs.isEmpty()
                || heldOf(member, month) >= -giver.positions[month]) {
            return NONE;
        }
        paper.free = false;
        notices.add(new Notice(member, month, receipt, due.longs.get(0).member));
        return notices.size() - 1;
    }

    public int pass(int notice) {
        Notice going = heldNotice(notice);
        if (going == null) {
            return NONE;
        }
        int next = nextHolder(going);
        Member from = memberOf(going.holder);
        Member to = memberOf(next);
        if (from == null || to == null) {
            return NONE;
        }
        long fee = rulebook.valueOf(FEE, today, going.month, 0, going.passed, 0, 0);
        from.paid -= fee;
        to.paid += fee;
        going.handTo(next);
        return next;
    }

    public int keep(int notice) {
        Notice going = heldNotice(notice);
        if (going == null) {
            return NONE;
        }
        Member keeper = memberOf(going.holder);
        Member giver = memberOf(going.giver);
        Receipt paper = receiptOf(going.receipt);
        if (keeper == null || giver == null || paper == null) {
            return NONE;
        }
        paper.free = true;
        if (keeper.positions[going.month] <= 0 || giver.positions[going.month] >= 0) {
            going.state = VOID;
            return 0;
        }
        going.state = KEPT;
        paper.owner = going.holder;
        int price = latestPrice(going.month);
        exchange(going.giver, going.holder, going.month, 1, price);
        long sum = price;
        sum += rulebook.valueOf(DIFF, today, going.month, price, 0, paper.grade, paper.place);
        keeper.paid -= sum;
        giver.paid += sum;
        return 1;
    }

    public int told(int notice, int what) {
        Notice paper = noticeOf(notice);
        if (paper == null) {
            return NONE;
        }
        switch (what) {
            case 0:
                return paper.state;
            case 1:
                return paper.holder;
            case 2:
                return paper.giver;
            case 3:
                return paper.receipt;
            case 4:
                return paper.passed;
            case 5:
                return paper.month;
            default:
                return NONE;
        }
    }

    public int stored(int receipt, int what) {
        Receipt paper = receiptOf(receipt);
        if (paper == null) {
            return NONE;
        }
        switch (what) {
            case 0:
                return paper.grade;
            case 1:
                return paper.place;
            case 2:
                return paper.owner;
            case 3:
                return paper.free ? 1 : 0;
            default:
                return NONE;
        }
    }

    public int squeeze(int month, int what) {
        if (!isMonth(month)) {
            return NONE;
        }
        switch (what) {
            case 0:
                return months[month].closed ? 1 : 0;
            case 1:
                return dueIn(month);
            case 2:
                return cornerOf(month);
            case 3:
                return receiptsBut(cornerOf(month));
            case 4:
                return isSqueezed(month) ? 1 : 0;
            default:
                return NONE;
        }
    }

    // ---- two times

    public boolean right(int month, int day, int price) {
        if (!isMonth(month) || !isPrice(price) || !isOver(day) || rightedSoFar >= MOST_RIGHTED) {
            return false;
        }
        Settle before = days.get(day).settles[month];
        if (before == null) {
            return false;
        }
        days.get(day).settles[month] = new Settle(price, today, before);
        rightedSoFar++;
        return true;
    }

    public int settle(int month, int day, int known) {
        if (!isMonth(month) || !isKnown(day, known)) {
            return NONE;
        }
        int price = priceOn(month, day, known);
        return price == 0 ? NONE : price;
    }

    public long equity(int member, int day, int known) throws NoSuchElementException {
        if (memberOf(member) == null || !isKnown(day, known)) {
            throw new NoSuchElementException("no such member or day");
        }
        Day past = days.get(day);
        if (member >= past.balances.length) {
            return 0;
        }
        long sum = past.balances[member];
        for (int m = 0; m < MONTHS; m++) {
            sum += (long) past.positions[member * MONTHS + m] * priceOn(m, day, known);
        }
        return sum;
    }

    // ---- what there is

    private static boolean isMonth(int month) {
        return month >= 0 && month < MONTHS;
    }

    private static boolean isPrice(int price) {
        return price >= 1 && price <= MOST_PRICE;
    }

    private boolean isOver(int day) {
        return day >= 0 && day < days.size();
    }

    private boolean isKnown(int day, int known) {
        return isOver(day) && known >= day && known <= today;
    }

    private Member memberOf(int number) {
        return number >= 0 && number < members.size() ? members.get(number) : null;
    }

    private Trade tradeOf(int number) {
        return number >= 0 && number < trades.size() ? trades.get(number) : null;
    }

    private Receipt receiptOf(int number) {
        return number >= 0 && number < receipts.size() ? receipts.get(number) : null;
    }

    private Notice noticeOf(int number) {
        return number >= 0 && number < notices.size() ? notices.get(number) : null;
    }

    private Notice heldNotice(int number) {
        Notice found = noticeOf(number);
        return found != null && found.state == HELD ? found : null;
    }

    private boolean inDefault(int number) {
        Member found = memberOf(number);
        return found != null && found.failed;
    }

    private int allWaiting() {
        int sum = 0;
        for (int m = 0; m < MONTHS; m++) {
            sum += months[m].bids.size() + months[m].offers.size();
        }
        return sum;
    }

    private int allHeld() {
        int sum = 0;
        for (int i = 0; i < notices.size(); i++) {
            sum += notices.get(i).state == HELD ? 1 : 0;
        }
        return sum;
    }

    // ---- prices and worths; a price of 0 says that there is none

    private int latestPrice(int month) {
        if (days.isEmpty()) {
            return 0;
        }
        // The first of a chain was told last, and nothing is told later than today.
        Settle latest = days.get(days.size() - 1).settles[month];
        return latest == null ? 0 : latest.price;
    }

    private int priceOn(int month, int day, int known) {
        Settle found = days.get(day).settles[month];
        while (found != null && found.told > known) {
            found = found.before;
        }
        return found == null ? 0 : found.price;
    }

    private long worthOf(Member owner) {
        long sum = owner.paid - owner.cost;
        for (int m = 0; m < MONTHS; m++) {
            sum += (long) owner.positions[m] * latestPrice(m);
        }
        return sum;
    }

    private long needOf(Member owner, int name) {
        long sum = 0;
        for (int m = 0; m < MONTHS; m++) {
            int size = Math.abs(owner.positions[m]);
            if (size > 0) {
                int each = rulebook.valueOf(name, today, m, latestPrice(m), size, 0, 0);
                sum += (long) size * Math.max(each, 0);
            }
        }
        return sum;
    }

    // ---- orders and trades

    /** The first reason to refuse an order, 0 without one. */
    private int reasonAgainst(int member, boolean buy, int month, int price, int lots) {
        Member owner = memberOf(member);
        if (owner == null || !isMonth(month) || lots < 1 || lots > MOST_LOTS || !isPrice(price)) {
            return 1;
        }
        if (owner.failed || months[month].closed) {
            return 2;
        }
        if (isTooFar(month, price)) {
            return 3;
        }
        int held = buy ? owner.positions[month] : -owner.positions[month];
        int wanted = held + months[month].lotsWaiting(buy, member) + lots;
        if (wanted > rulebook.valueOf(CAP, today, month, 0, lots, 0, 0)) {
            return 4;
        }
        return allWaiting() >= MOST_WAITING || trades.size() >= MOST_TRADES ? 5 : 0;
    }

    private boolean isTooFar(int month, int price) {
        int latest = latestPrice(month);
        return latest != 0
                && Math.abs(price - latest) > rulebook.valueOf(LIMIT, today, month, latest, 0, 0, 0);
    }

    /** Trades an order with those that wait on the other side; answers the lots that are left. */
    private int fill(int member, boolean buy, int month, int price, int lots) {
        ArrayList<Stake> others = months[month].side(!buy);
        int left = lots;
        for (int n = 0; n < MOST_WAITING && left > 0 && !others.isEmpty(); n++) {
            Stake best = others.get(0);
            boolean meets = buy ? best.price <= price : best.price >= price;
            if (!meets || trades.size() >= MOST_TRADES) {
                return left;
            }
            int part = Math.min(left, best.lots);
            int buyer = buy ? member : best.member;
            int seller = buy ? best.member : member;
            trades.add(new Trade(month, best.price, part, buyer, seller, today));
            exchange(buyer, seller, month, part, best.price);
            left -= part;
            best.lots -= part;
            if (best.lots == 0) {
                others.remove(0);
            }
        }
        return left;
    }

    /** What a trade does to positions, costs and LONGS, whether it is a numbered one or not. */
    private void exchange(int buyer, int seller, int month, int lots, int price) {
        Member to = memberOf(buyer);
        Member from = memberOf(seller);
        if (to == null || from == null || buyer == seller) {
            return;
        }
        months[month].takeLongs(seller, lots);
        int covered = Math.min(lots, Math.max(0, -to.positions[month]));
        if (lots > covered) {
            months[month].longs.add(new Stake(buyer, lots - covered, 0, 0));
        }
        to.gain(month, lots, price);
        from.gain(month, -lots, price);
    }

    // ---- the day's end

    private int endPrice(int month) {
        for (int t = trades.size() - 1; t >= 0 && trades.get(t).day == today; t--) {
            Trade deal = trades.get(t);
            if (deal.month == month && !deal.struck) {
                return deal.price;
            }
        }
        return latestPrice(month);
    }

    /** Whether a member comes into DEFAULT; if not, whether it is CALLED is set anew. */
    private boolean fallsTonight(Member owner) {
        if (owner.failed) {
            return false;
        }
        long worth = worthOf(owner);
        if (owner.called) {
            // One that was called goes by first alone: it falls, or it is free of the call,
            // even where keep asks for more than first.
            owner.called = false;
            return worth < needOf(owner, FIRST);
        }
        owner.called = worth < needOf(owner, KEEP);
        return false;
    }

    private void closeOut(int number) {
        Member fallen = memberOf(number);
        if (fallen == null) {
            return;
        }
        fallen.failed = true;
        for (int m = 0; m < MONTHS; m++) {
            boolean sells = fallen.positions[m] > 0;
            int size = Math.abs(fallen.positions[m]);
            int price = latestPrice(m);
            int other = number;
            for (int lot = 0; lot < size; lot++) {
                other = nextOpposite(other, m, sells);
                exchange(sells ? other : number, sells ? number : other, m, 1, price);
            }
        }
    }

    /** The next member behind one, round, that is short (or long) in a month. */
    private int nextOpposite(int behind, int month, boolean isShort) {
        int all = members.size();
        int at = behind;
        for (int step = 0; step < all; step++) {
            at = at + 1 < all ? at + 1 : 0;
            int held = members.get(at).positions[month];
            if (isShort ? held < 0 : held > 0) {
                return at;
            }
        }
        return behind;
    }

    private void rememberMembers(Day day) {
        for (int i = 0; i < members.size() && i < day.balances.length; i++) {
            Member owner = members.get(i);
            day.balances[i] = owner.paid - owner.cost;
            System.arraycopy(owner.positions, 0, day.positions, i * MONTHS, MONTHS);
        }
    }

    // ---- delivery

    private int freeReceiptsOf(int member) {
        int sum = 0;
        for (int i = 0; i < receipts.size(); i++) {
            Receipt paper = receipts.get(i);
            sum += paper.free && paper.owner == member ? 1 : 0;
        }
        return sum;
    }

    private int receiptsBut(int member) {
        int sum = 0;
        for (int i = 0; i < receipts.size(); i++) {
            Receipt paper = receipts.get(i);
            sum += paper.free && paper.owner != member ? 1 : 0;
        }
        return sum;
    }

    private int heldOf(int giver, int month) {
        int sum = 0;
        for (int i = 0; i < notices.size(); i++) {
            Notice going = notices.get(i);
            sum += going.state == HELD && going.giver == giver && going.month == month ? 1 : 0;
        }
        return sum;
    }

    /** Whom a notice would be passed to, NONE if nobody is left. */
    private int nextHolder(Notice going) {
        ArrayList<Stake> row = months[going.month].longs;
        for (int i = months[going.month].firstLongOf(going.holder) + 1; i < row.size(); i++) {
            int next = row.get(i).member;
            if (!going.wasWith(next)) {
                return next;
            }
        }
        return NONE;
    }

    private int dueIn(int month) {
        int sum = 0;
        for (int i = 0; i < members.size(); i++) {
            sum += Math.max(0, -members.get(i).positions[month]);
        }
        return sum;
    }

    private int cornerOf(int month) {
        int corner = NONE;
        int most = 0;
        for (int i = 0; i < members.size(); i++) {
            int held = members.get(i).positions[month];
            if (held > most) {
                most = held;
                corner = i;
            }
        }
        return corner;
    }

    private boolean isSqueezed(int month) {
        int corner = cornerOf(month);
        Member holder = memberOf(corner);
        int due = dueIn(month);
        return holder != null && due > receiptsBut(corner) && 2 * holder.positions[month] > due;
    }

    // ---- classes

    private static final class Member {
        final int[] positions = new int[MONTHS];
        /** Of all months in one: only their sum is ever asked for. */
        long cost;
        long paid;
        boolean called;
        boolean failed;

        void gain(int month, int lots, int price) {
            positions[month] += lots;
            cost += (long) lots * price;
        }
    }

    /** Lots of a member in a row: a waiting order, or a LONG, which has no price and number. */
    private static final class Stake {
        final int member;
        final int price;
        final int number;
        int lots;

        Stake(int member, int lots, int price, int number) {
            this.member = member;
            this.lots = lots;
            this.price = price;
            this.number = number;
        }
    }

    private static final class Trade {
        final int month;
        final int price;
        final int lots;
        final int buyer;
        final int seller;
        final int day;
        boolean struck;

        Trade(int month, int price, int lots, int buyer, int seller, int day) {
            this.month = month;
            this.price = price;
            this.lots = lots;
            this.buyer = buyer;
            this.seller = seller;
            this.day = day;
        }
    }

    private static final class Month {
        final ArrayList<Stake> bids = new ArrayList<>();
        final ArrayList<Stake> offers = new ArrayList<>();
        final ArrayList<Stake> longs = new ArrayList<>();
        boolean closed;

        /** A side's waiting orders, by rank. */
        ArrayList<Stake> side(boolean buy) {
            return buy ? bids : offers;
        }

        void queue(boolean buy, Stake stake) {
            ArrayList<Stake> row = side(buy);
            int rank = 0;
            while (rank < row.size() && !isBetter(buy, stake.price, row.get(rank).price)) {
                rank++;
            }
            row.add(rank, stake);
        }

        private static boolean isBetter(boolean buy, int price, int than) {
            return buy ? price > than : price < than;
        }

        int lotsWaiting(boolean buy, int member) {
            ArrayList<Stake> row = side(buy);
            int sum = 0;
            for (int i = 0; i < row.size(); i++) {
                sum += row.get(i).member == member ? row.get(i).lots : 0;
            }
            return sum;
        }

        void dropAll() {
            bids.clear();
            offers.clear();
        }

        int dropLatest(int member) {
            int bid = latestOf(bids, member);
            int offer = latestOf(offers, member);
            boolean isBid = numberAt(bids, bid) > numberAt(offers, offer);
            ArrayList<Stake> row = isBid ? bids : offers;
            int at = isBid ? bid : offer;
            if (at < 0 || at >= row.size()) {
                return NONE;
            }
            int lots = row.get(at).lots;
            row.remove(at);
            return lots;
        }

        private static int numberAt(ArrayList<Stake> row, int i) {
            return i >= 0 && i < row.size() ? row.get(i).number : NONE;
        }

        private static int latestOf(ArrayList<Stake> row, int member) {
            int latest = NONE;
            for (int i = 0; i < row.size(); i++) {
                if (row.get(i).member == member && row.get(i).number > numberAt(row, latest)) {
                    latest = i;
                }
            }
            return latest;
        }

        void takeLongs(int member, int lots) {
            int left = lots;
            int at = 0;
            int all = longs.size();
            for (int n = 0; n < all && left > 0 && at < longs.size(); n++) {
                Stake stake = longs.get(at);
                int part = stake.member == member ? Math.min(left, stake.lots) : 0;
                left -= part;
                stake.lots -= part;
                if (stake.lots == 0) {
                    longs.remove(at);
                } else {
                    at++;
                }
            }
        }

        int firstLongOf(int member) {
            for (int i = 0; i < longs.size(); i++) {
                if (longs.get(i).member == member) {
                    return i;
                }
            }
            return NONE;
        }
    }

    private static final class Receipt {
        final int grade;
        final int place;
        int owner;
        boolean free = true;

        Receipt(int owner, int grade, int place) {
            this.owner = owner;
            this.grade = grade;
            this.place = place;
        }
    }

    private static final class Notice {
        final int giver;
        final int month;
        final int receipt;
        int holder;
        int passed;
        int state = HELD;
        /** A bit for each member that has had it. */
        private int had;

        Notice(int giver, int month, int receipt, int holder) {
            this.giver = giver;
            this.month = month;
            this.receipt = receipt;
            this.holder = holder;
            had = 1 << holder;
        }

        boolean wasWith(int member) {
            return (had >> member & 1) == 1;
        }

        void handTo(int member) {
            holder = member;
            had |= 1 << member;
            passed++;
        }
    }

    /** A price of a month's day, in front of what was told of the same day before. */
    private static final class Settle {
        final int price;
        final int told;
        final Settle before;

        Settle(int price, int told, Settle before) {
            this.price = price;
            this.told = told;
            this.before = before;
        }
    }

    /** A day that is over: its SETTLES, and the members as they were when it ended. */
    private static final class Day {
        final Settle[] settles = new Settle[MONTHS];
        final int[] positions;
        /** MONEY PAID less COST. */
        final long[] balances;

        Day(int members) {
            positions = new int[members * MONTHS];
            balances = new long[members];
        }
    }

    /** A rule; its expression is kept with operators behind what they work on. */
    private static final class Rule {
        final int name;
        final int from;
        final int[] code;

        Rule(int name, int from, int[] code) {
            this.name = name;
            this.from = from;
            this.code = code;
        }
    }

    /** All rules, and what they come to. */
    private static final class Rulebook {
        private static final int DEFAULT_BOUND = 1000;
        /** In a code, numbers are 0 and above, words -1 to -6, a sign or min or max its kind below 0. */
        static final int WORD_COUNT = 6;
        static final int NEGATE = -7;
        static final int CHOOSE = -8;

        final ArrayList<Rule> all = new ArrayList<>();
        private final int[] words = new int[WORD_COUNT];
        private final int[] stack = new int[Reader.MOST_TOKENS];
        private int depth;

        int valueOf(int name, int day, int month, int price, int lots, int grade, int place) {
            Rule inForce = inForce(name, day);
            if (inForce == null) {
                return name == LIMIT || name == CAP ? DEFAULT_BOUND : 0;
            }
            words[0] = day;
            words[1] = month;
            words[2] = price;
            words[3] = lots;
            words[4] = grade;
            words[5] = place;
            return work(inForce.code);
        }

        private Rule inForce(int name, int day) {
            Rule best = null;
            for (int i = 0; i < all.size(); i++) {
                Rule each = all.get(i);
                boolean fits = each.name == name && each.from <= day;
                if (fits && (best == null || each.from >= best.from)) {
                    best = each;
                }
            }
            return best;
        }

        private int work(int[] code) {
            depth = 0;
            for (int i = 0; i < code.length; i++) {
                int step = code[i];
                if (step >= 0) {
                    push(step);
                } else if (step >= -WORD_COUNT) {
                    push(words[-1 - step]);
                } else {
                    apply(step);
                }
            }
            return pop();
        }

        private void apply(int step) {
            int second = pop();
            if (step == NEGATE) {
                push(-second);
                return;
            }
            int first = pop();
            if (step == CHOOSE) {
                push(pop() != 0 ? first : second);
            } else {
                push(combine(-step, first, second));
            }
        }

        private static int combine(int kind, int a, int b) {
            switch (kind) {
                case '+':
                    return a + b;
                case '-':
                    return a - b;
                case '*':
                    return a * b;
                case '/':
                    return b == 0 ? 0 : a / b;
                case '<':
                    return a < b ? 1 : 0;
                case '>':
                    return a > b ? 1 : 0;
                case '=':
                    return a == b ? 1 : 0;
                case Reader.MIN:
                    return Math.min(a, b);
                default:
                    return Math.max(a, b);
            }
        }

        private void push(int value) {
            if (depth < stack.length) {
                stack[depth] = value;
                depth++;
            }
        }

        private int pop() {
            if (depth == 0) {
                return 0;
            }
            depth--;
            return stack[depth];
        }
    }

    /**
     * THE TAPE, and how it is read as a text. The first fault breaks the reading: from then on the
     * token is BROKEN, which stands nowhere, so that all that is begun comes to its end.
     */
    private static final class Reader {
        static final int MOST_TOKENS = 60;
        private static final int MOST_BYTES = 600;
        private static final int MOST_RULES = 30;
        private static final int MOST_OPEN = 12;
        private static final int MOST_NUMBER = 999999;

        private static final int BAD_TOKEN = 1;
        private static final int MISPLACED = 2;
        private static final int TOO_DEEP = 3;
        private static final int TOO_MANY = 4;

        /** A word's kind is its number here; the six names come first, then the six words of expressions. */
        private static final String WORDS =
                "limit first keep cap diff fee day month price lots grade place from is min max ";
        private static final int FIRST_WORD = 6;
        private static final int FROM = 12;
        private static final int IS = 13;
        static final int MIN = 14;
        private static final int MAX = 15;
        private static final int NUMBER = 16;
        private static final int END = 17;
        private static final int BROKEN = 18;
        /** A sign's kind is its byte, which is above all kinds there are else. */
        private static final String SIGNS = ";?:<>=+-*/(),";

        private final char[] tape = new char[MOST_BYTES];
        int length;
        int faultNumber;
        int faultPlace;
        private int at;
        private int place;
        private int kind;
        private int number;
        private int tokens;
        private final int[] code = new int[MOST_TOKENS];
        private int codeLength;

        boolean hasRoomForFive() {
            return length + 20 <= MOST_BYTES;
        }

        void append(int four) {
            for (int shift = 24; shift >= 0 && length < MOST_BYTES; shift -= 8) {
                tape[length] = (char) (four >> shift & 255);
                length++;
            }
        }

        /** Reads the tape, which is empty then: how many rules were added, NONE if it has a fault. */
        int readText(ArrayList<Rule> all) {
            int before = all.size();
            faultNumber = 0;
            faultPlace = 0;
            at = 0;
            kind = END;
            advance();
            for (int n = 0; n < MOST_BYTES && kind != END && kind != BROKEN; n++) {
                readRule(all);
            }
            length = 0;
            if (faultNumber == 0) {
                return all.size() - before;
            }
            for (int i = all.size() - 1; i >= before; i--) {
                all.remove(i);
            }
            return NONE;
        }

        private void readRule(ArrayList<Rule> all) {
            int name = kind;
            refuseIf(name >= FIRST_WORD, MISPLACED);
            refuseIf(all.size() >= MOST_RULES, TOO_MANY);
            advance();
            readOnly(FROM);
            int from = number;
            refuseIf(kind != NUMBER || from > LAST_DAY, MISPLACED);
            advance();
            readOnly(IS);
            tokens = 0;
            codeLength = 0;
            readExpr(0);
            readOnly(';');
            if (kind != BROKEN) {
                all.add(new Rule(name, from, Arrays.copyOf(code, codeLength)));
            }
        }

        private void readExpr(int open) {
            readCond(open);
            if (kind == '?') {
                refuseIf(open >= MOST_OPEN, TOO_DEEP);
                take();
                readExpr(open + 1);
                refuseIf(kind != ':', MISPLACED);
                take();
                readExpr(open + 1);
                emit(Rulebook.CHOOSE);
            }
        }

        private void readCond(int open) {
            readSum(open);
            if (kind == '<' || kind == '>' || kind == '=') {
                int sign = kind;
                take();
                readSum(open);
                emit(-sign);
            }
        }

        private void readSum(int open) {
            readPart(open);
            for (int n = 0; n < MOST_TOKENS && (kind == '+' || kind == '-'); n++) {
                int sign = kind;
                take();
                readPart(open);
                emit(-sign);
            }
        }

        private void readPart(int open) {
            readFactor(open);
            for (int n = 0; n < MOST_TOKENS && (kind == '*' || kind == '/'); n++) {
                int sign = kind;
                take();
                readFactor(open);
                emit(-sign);
            }
        }

        private void readFactor(int open) {
            if (kind == NUMBER) {
                emit(number);
                take();
            } else if (kind >= FIRST_WORD && kind < FROM) {
                emit(-1 - (kind - FIRST_WORD));
                take();
            } else if (kind == '-') {
                refuseIf(open >= MOST_OPEN, TOO_DEEP);
                take();
                readFactor(open + 1);
                emit(Rulebook.NEGATE);
            } else if (kind == '(') {
                readBracket(open, false);
            } else if (kind == MIN || kind == MAX) {
                int which = kind;
                take();
                refuseIf(kind != '(', MISPLACED);
                readBracket(open, true);
                emit(-which);
            } else {
                refuseIf(true, MISPLACED);
            }
        }

        /** From a ( to its ), with one expression or a pair of them. */
        private void readBracket(int open, boolean pair) {
            refuseIf(open >= MOST_OPEN, TOO_DEEP);
            take();
            readExpr(open + 1);
            if (pair) {
                refuseIf(kind != ',', MISPLACED);
                take();
                readExpr(open + 1);
            }
            refuseIf(kind != ')', MISPLACED);
            take();
        }

        private void emit(int step) {
            if (codeLength < code.length) {
                code[codeLength] = step;
                codeLength++;
            }
        }

        private void readOnly(int wanted) {
            refuseIf(kind != wanted, MISPLACED);
            advance();
        }

        /** Goes behind a token of an expression, which may have only so many. */
        private void take() {
            refuseIf(tokens >= MOST_TOKENS, TOO_MANY);
            tokens++;
            advance();
        }

        /** Faults of one token are asked for in their order, since the first that is found stays. */
        private void refuseIf(boolean wrong, int fault) {
            if (wrong && kind != BROKEN) {
                faultNumber = fault;
                faultPlace = place;
                kind = BROKEN;
            }
        }

        private void advance() {
            if (kind == BROKEN) {
                return;
            }
            while (at < length && (tape[at] == ' ' || tape[at] == '\n')) {
                at++;
            }
            place = at;
            if (at >= length) {
                kind = END;
            } else if (isLetter(tape[at])) {
                while (at < length && isLetter(tape[at])) {
                    at++;
                }
                kind = wordFrom(place, at);
                refuseIf(kind == NONE, BAD_TOKEN);
            } else if (isDigit(tape[at])) {
                readNumber();
            } else if (SIGNS.indexOf(tape[at]) >= 0) {
                kind = tape[at];
                at++;
            } else {
                refuseIf(true, BAD_TOKEN);
            }
        }

        private void readNumber() {
            number = 0;
            while (at < length && isDigit(tape[at])) {
                // Kept just above the greatest, so that no row of digits goes round.
                number = Math.min(number * 10 + tape[at] - '0', MOST_NUMBER + 1);
                at++;
            }
            kind = NUMBER;
            refuseIf(number > MOST_NUMBER, BAD_TOKEN);
        }

        private int wordFrom(int start, int end) {
            int word = 0;
            int same = start;
            for (int i = 0; i < WORDS.length(); i++) {
                char letter = WORDS.charAt(i);
                if (letter == ' ') {
                    if (same == end) {
                        return word;
                    }
                    word++;
                    same = start;
                } else if (same >= start && same < end && tape[same] == letter) {
                    same++;
                } else {
                    same = NONE;
                }
            }
            return NONE;
        }

        private static boolean isLetter(int c) {
            return c >= 'a' && c <= 'z';
        }

        private static boolean isDigit(int c) {
            return c >= '0' && c <= '9';
        }
    }
}
