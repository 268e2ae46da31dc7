import java.util.ArrayList;
import java.util.Comparator;
import java.util.List;
import java.util.NoSuchElementException;

/**
 * The exchange written a second time in the plainest way: it keeps what happened, and works
 * positions, costs, LONGS and past days out of that each time it is asked.
 */
final class Model {
    private static final int NONE = -1;

    /** Lots that changed hands, numbered or not. */
    private record Hand(int buyer, int seller, int month, int lots, int price) {
    }

    private static final class Order {
        int member;
        boolean buy;
        int month;
        int price;
        int lots;
        int time;
    }

    private record Deal(int month, int price, int lots, int buyer, int seller, int day) {
    }

    private record Told(int month, int day, int price, int when) {
    }

    private static final class Paper {
        int grade;
        int place;
        int owner;
        boolean free = true;
    }

    private static final class Note {
        int state = 1;
        int giver;
        int month;
        int receipt;
        List<Integer> holders = new ArrayList<>();

        int holder() {
            return holders.get(holders.size() - 1);
        }
    }

    private final StringBuilder tape = new StringBuilder();
    private final RuleModel rules = new RuleModel();
    private final List<Hand> hands = new ArrayList<>();
    private final List<Order> orders = new ArrayList<>();
    private final List<Deal> deals = new ArrayList<>();
    private final List<Integer> struck = new ArrayList<>();
    private final List<Long> paid = new ArrayList<>();
    private final List<Integer> called = new ArrayList<>();
    private final List<Integer> fallen = new ArrayList<>();
    private final List<Told> told = new ArrayList<>();
    private final List<Integer> closed = new ArrayList<>();
    private final List<Paper> papers = new ArrayList<>();
    private final List<Note> notes = new ArrayList<>();
    private final List<List<Long>> pastPaid = new ArrayList<>();
    private final List<Integer> pastHands = new ArrayList<>();
    private int today;
    private int time;
    private int righted;

    // ---- texts

    int feed(int... five) {
        if (tape.length() > 580) {
            return NONE;
        }
        for (int n : five) {
            tape.append((char) (n >>> 24)).append((char) (n >>> 16 & 255));
            tape.append((char) (n >>> 8 & 255)).append((char) (n & 255));
        }
        return tape.length();
    }

    boolean end(int n) {
        if (n < 0 || n > tape.length()) {
            return false;
        }
        tape.setLength(n);
        return true;
    }

    int rules() {
        String text = tape.toString();
        tape.setLength(0);
        return rules.tell(text);
    }

    int fault(int what) {
        return what == 0 ? rules.fault : what == 1 ? rules.place : NONE;
    }

    int rule(int name, int day, int month, int price, int lots, int grade, int place) {
        if (name < 0 || name > 5 || day < 0 || day > 150) {
            throw new NoSuchElementException();
        }
        return rules.value(name, day, month, price, lots, grade, place);
    }

    // ---- members, orders, trades

    private boolean isMember(int m) {
        return m >= 0 && m < paid.size();
    }

    private static boolean isMonth(int m) {
        return m >= 0 && m <= 5;
    }

    int member() {
        if (paid.size() == 12) {
            return NONE;
        }
        paid.add(0L);
        return paid.size() - 1;
    }

    long pay(int member, int v) {
        if (!isMember(member) || v < -1000000 || v > 1000000) {
            throw new NoSuchElementException();
        }
        paid.set(member, paid.get(member) + v);
        return paid.get(member);
    }

    private void give(int member, long sum) {
        paid.set(member, paid.get(member) + sum);
    }

    private int held(int member, int month, int upTo) {
        int sum = 0;
        for (Hand h : hands.subList(0, upTo)) {
            if (h.month == month) {
                sum += (h.buyer == member ? h.lots : 0) - (h.seller == member ? h.lots : 0);
            }
        }
        return sum;
    }

    private int held(int member, int month) {
        return held(member, month, hands.size());
    }

    private long cost(int member, int month, int upTo) {
        long sum = 0;
        for (Hand h : hands.subList(0, upTo)) {
            if (h.month == month) {
                long price = (long) h.lots * h.price;
                sum += (h.buyer == member ? price : 0) - (h.seller == member ? price : 0);
            }
        }
        return sum;
    }

    /** The price of a month on a day, as known on another; 0 for none. */
    private int price(int month, int day, int known) {
        int found = 0;
        for (Told t : told) {
            if (t.month == month && t.day == day && t.when <= known) {
                found = t.price;
            }
        }
        return found;
    }

    private int latest(int month) {
        return price(month, today - 1, today);
    }

    private long need(int name, int member, int[] prices) {
        long sum = 0;
        for (int month = 0; month < 6; month++) {
            int size = Math.abs(held(member, month));
            long each = rules.value(name, today, month, prices[month], size, 0, 0);
            sum += size * (each < 0 ? 0 : each);
        }
        return sum;
    }

    private long worth(int member, int[] prices, int upTo) {
        long sum = 0;
        for (int month = 0; month < 6; month++) {
            sum += (long) held(member, month, upTo) * prices[month] - cost(member, month, upTo);
        }
        return sum;
    }

    private int[] latestPrices() {
        int[] prices = new int[6];
        for (int month = 0; month < 6; month++) {
            prices[month] = latest(month);
        }
        return prices;
    }

    private List<Order> side(boolean buy, int month) {
        List<Order> row = new ArrayList<>();
        for (Order o : orders) {
            if (o.buy == buy && o.month == month) {
                row.add(o);
            }
        }
        Comparator<Order> byPrice = Comparator.comparingInt(o -> buy ? -o.price : o.price);
        row.sort(byPrice.thenComparingInt(o -> o.time));
        return row;
    }

    int order(int member, boolean buy, int month, int price, int lots) {
        if (!isMember(member) || !isMonth(month) || lots < 1 || lots > 50 || price < 1 || price > 10000) {
            return -2;
        }
        if (fallen.contains(member) || closed.contains(month)) {
            return -3;
        }
        int settle = latest(month);
        if (settle != 0 && Math.abs(price - settle) > rules.value(0, today, month, settle, 0, 0, 0)) {
            return -4;
        }
        int sum = (buy ? 1 : -1) * held(member, month) + lots;
        for (Order o : side(buy, month)) {
            sum += o.member == member ? o.lots : 0;
        }
        if (sum > rules.value(3, today, month, 0, lots, 0, 0)) {
            return -5;
        }
        if (orders.size() >= 120 || deals.size() >= 700) {
            return -6;
        }
        int left = lots;
        for (Order o : side(!buy, month)) {
            boolean meets = buy ? price >= o.price : price <= o.price;
            if (left == 0 || !meets || deals.size() == 700) {
                break;
            }
            int part = Math.min(left, o.lots);
            int buyer = buy ? member : o.member;
            int seller = buy ? o.member : member;
            deals.add(new Deal(month, o.price, part, buyer, seller, today));
            hands.add(new Hand(buyer, seller, month, part, o.price));
            left -= part;
            o.lots -= part;
        }
        orders.removeIf(o -> o.lots == 0);
        if (left > 0 && deals.size() < 700) {
            Order rest = new Order();
            rest.member = member;
            rest.buy = buy;
            rest.month = month;
            rest.price = price;
            rest.lots = left;
            rest.time = time++;
            orders.add(rest);
        }
        return lots - left;
    }

    int cancel(int member, int month) {
        for (int i = orders.size() - 1; i >= 0; i--) {
            if (orders.get(i).member == member && orders.get(i).month == month) {
                return orders.remove(i).lots;
            }
        }
        return NONE;
    }

    int waiting(boolean buy, int month, int i, int what) {
        List<Order> row = side(buy, month);
        if (i < 0 || i >= row.size()) {
            return NONE;
        }
        Order o = row.get(i);
        return what == 0 ? o.member : what == 1 ? o.price : what == 2 ? o.lots : NONE;
    }

    int trade(int t, int what) {
        if (t < 0 || t >= deals.size() || what < 0 || what > 6) {
            return NONE;
        }
        Deal d = deals.get(t);
        int[] row = {d.month, d.price, d.lots, d.buyer, d.seller, d.day, struck.contains(t) ? 1 : 0};
        return row[what];
    }

    boolean strike(int t) {
        if (t < 0 || t >= deals.size() || struck.contains(t)) {
            return false;
        }
        Deal d = deals.get(t);
        if (fallen.contains(d.buyer) || fallen.contains(d.seller) || closed.contains(d.month)) {
            return false;
        }
        struck.add(t);
        hands.add(new Hand(d.seller, d.buyer, d.month, d.lots, d.price));
        return true;
    }

    int night() {
        if (today == 150) {
            return NONE;
        }
        orders.clear();
        int[] prices = latestPrices();
        for (int t = 0; t < deals.size(); t++) {
            if (deals.get(t).day == today && !struck.contains(t)) {
                prices[deals.get(t).month] = deals.get(t).price;
            }
        }
        int fell = 0;
        for (int m = 0; m < paid.size(); m++) {
            if (fallen.contains(m)) {
                continue;
            }
            long worth = paid.get(m) + worth(m, prices, hands.size());
            boolean wasCalled = called.contains(m);
            called.remove((Integer) m);
            if (wasCalled && worth < need(1, m, prices)) {
                fallen.add(m);
                fell++;
                close(m, prices);
            } else if (!wasCalled && worth < need(2, m, prices)) {
                called.add(m);
            }
        }
        for (int month = 0; month < 6; month++) {
            if (prices[month] != 0) {
                told.add(new Told(month, today, prices[month], today));
            }
        }
        pastPaid.add(new ArrayList<>(paid));
        pastHands.add(hands.size());
        today++;
        return fell;
    }

    private void close(int m, int[] prices) {
        for (int month = 0; month < 6; month++) {
            int other = m;
            int left = held(m, month);
            while (left != 0) {
                other = (other + 1) % paid.size();
                if (Long.signum(held(other, month)) * Integer.signum(left) < 0) {
                    hands.add(left > 0 ? new Hand(other, m, month, 1, prices[month])
                            : new Hand(m, other, month, 1, prices[month]));
                    left -= Integer.signum(left);
                }
            }
        }
    }

    // ---- looks

    long money(int member, int what) {
        if (!isMember(member) || what < 0 || what > 6) {
            throw new NoSuchElementException();
        }
        switch (what) {
            case 0:
                return paid.get(member);
            case 1:
                return paid.get(member) + worth(member, latestPrices(), hands.size());
            case 2:
                return called.contains(member) ? 1 : 0;
            case 3:
                return fallen.contains(member) ? 1 : 0;
            case 4:
            case 5:
                return need(what - 3, member, latestPrices());
            default:
                return papers.stream().filter(p -> p.free && p.owner == member).count();
        }
    }

    int position(int member, int month) {
        if (!isMember(member) || !isMonth(month)) {
            throw new NoSuchElementException();
        }
        return held(member, month);
    }

    /** One entry for each lot, so that neighbours of one purchase are told apart by its number. */
    private List<int[]> longs(int month) {
        List<int[]> row = new ArrayList<>();
        int[] held = new int[12];
        for (int n = 0; n < hands.size(); n++) {
            Hand h = hands.get(n);
            if (h.month != month || h.buyer == h.seller) {
                continue;
            }
            for (int lot = 0; lot < h.lots; lot++) {
                for (int i = 0; i < row.size(); i++) {
                    if (row.get(i)[0] == h.seller) {
                        row.remove(i);
                        break;
                    }
                }
                if (held[h.buyer] >= 0) {
                    row.add(new int[] {h.buyer, n});
                }
                held[h.buyer]++;
                held[h.seller]--;
            }
        }
        List<int[]> joined = new ArrayList<>();
        int before = -1;
        for (int[] lot : row) {
            if (lot[1] != before) {
                joined.add(new int[] {lot[0], 0});
                before = lot[1];
            }
            joined.get(joined.size() - 1)[1]++;
        }
        return joined;
    }

    int longOf(int month, int i, int what) {
        if (!isMonth(month)) {
            return NONE;
        }
        List<int[]> row = longs(month);
        return i < 0 || i >= row.size() || what < 0 || what > 1 ? NONE : row.get(i)[what];
    }

    int count(int what) {
        int going = (int) notes.stream().filter(n -> n.state == 1).count();
        int[] row = {today, paid.size(), deals.size(), orders.size(), rules.size(), papers.size(),
            notes.size(), going, tape.length()};
        return what < 0 || what >= row.length ? NONE : row[what];
    }

    // ---- delivery

    boolean deliver(int month) {
        if (!isMonth(month) || closed.contains(month)) {
            return false;
        }
        closed.add(month);
        orders.removeIf(o -> o.month == month);
        return true;
    }

    int receipt(int member, int grade, int place) {
        if (!isMember(member) || grade < 0 || grade > 3 || place < 0 || place > 3 || papers.size() == 60) {
            return NONE;
        }
        Paper p = new Paper();
        p.owner = member;
        p.grade = grade;
        p.place = place;
        papers.add(p);
        return papers.size() - 1;
    }

    int notice(int member, int month, int receipt) {
        if (!isMember(member) || !isMonth(month) || receipt < 0 || receipt >= papers.size()) {
            return NONE;
        }
        Paper p = papers.get(receipt);
        List<int[]> row = longs(month);
        long going = notes.stream().filter(n -> n.state == 1 && n.giver == member && n.month == month).count();
        boolean isShort = held(member, month) < 0 && going < -held(member, month);
        if (!isShort || !closed.contains(month) || latest(month) == 0 || !p.free || p.owner != member
                || row.isEmpty() || notes.size() == 80) {
            return NONE;
        }
        Note n = new Note();
        n.giver = member;
        n.month = month;
        n.receipt = receipt;
        n.holders.add(row.get(0)[0]);
        p.free = false;
        notes.add(n);
        return notes.size() - 1;
    }

    private Note going(int notice) {
        return notice >= 0 && notice < notes.size() && notes.get(notice).state == 1 ? notes.get(notice) : null;
    }

    int pass(int notice) {
        Note n = going(notice);
        if (n == null) {
            return NONE;
        }
        List<Integer> row = new ArrayList<>();
        for (int[] l : longs(n.month)) {
            row.add(l[0]);
        }
        int own = row.indexOf(n.holder());
        for (int next : row.subList(own + 1, row.size())) {
            if (!n.holders.contains(next)) {
                long fee = rules.value(5, today, n.month, 0, n.holders.size() - 1, 0, 0);
                give(n.holder(), -fee);
                give(next, fee);
                n.holders.add(next);
                return next;
            }
        }
        return NONE;
    }

    int keep(int notice) {
        Note n = going(notice);
        if (n == null) {
            return NONE;
        }
        Paper p = papers.get(n.receipt);
        p.free = true;
        if (held(n.holder(), n.month) <= 0 || held(n.giver, n.month) >= 0) {
            n.state = 3;
            return 0;
        }
        n.state = 2;
        int settle = latest(n.month);
        hands.add(new Hand(n.giver, n.holder(), n.month, 1, settle));
        long sum = (long) settle + rules.value(4, today, n.month, settle, 0, p.grade, p.place);
        give(n.holder(), -sum);
        give(n.giver, sum);
        p.owner = n.holder();
        return 1;
    }

    int told(int notice, int what) {
        if (notice < 0 || notice >= notes.size() || what < 0 || what > 5) {
            return NONE;
        }
        Note n = notes.get(notice);
        int[] row = {n.state, n.holder(), n.giver, n.receipt, n.holders.size() - 1, n.month};
        return row[what];
    }

    int stored(int receipt, int what) {
        if (receipt < 0 || receipt >= papers.size() || what < 0 || what > 3) {
            return NONE;
        }
        Paper p = papers.get(receipt);
        int[] row = {p.grade, p.place, p.owner, p.free ? 1 : 0};
        return row[what];
    }

    int squeeze(int month, int what) {
        if (!isMonth(month) || what < 0 || what > 4) {
            return NONE;
        }
        int due = 0;
        int corner = NONE;
        for (int m = 0; m < paid.size(); m++) {
            due += Math.max(0, -held(m, month));
            if (held(m, month) > (corner < 0 ? 0 : held(corner, month))) {
                corner = m;
            }
        }
        int can = 0;
        for (Paper p : papers) {
            can += p.free && p.owner != corner ? 1 : 0;
        }
        boolean squeezed = due > can && corner >= 0 && held(corner, month) > due / 2.0;
        int[] row = {closed.contains(month) ? 1 : 0, due, corner, can, squeezed ? 1 : 0};
        return row[what];
    }

    // ---- two times

    boolean right(int month, int day, int price) {
        if (!isMonth(month) || day < 0 || day >= today || price < 1 || price > 10000
                || price(month, day, today) == 0 || righted == 100) {
            return false;
        }
        told.add(new Told(month, day, price, today));
        righted++;
        return true;
    }

    int settle(int month, int day, int known) {
        if (!isMonth(month) || day < 0 || day >= today || known < day || known > today) {
            return NONE;
        }
        int found = price(month, day, known);
        return found == 0 ? NONE : found;
    }

    long equity(int member, int day, int known) {
        if (!isMember(member) || day < 0 || day >= today || known < day || known > today) {
            throw new NoSuchElementException();
        }
        int[] prices = new int[6];
        for (int month = 0; month < 6; month++) {
            prices[month] = price(month, day, known);
        }
        List<Long> then = pastPaid.get(day);
        return member < then.size() ? then.get(member) + worth(member, prices, pastHands.get(day)) : 0;
    }
}
