import java.util.NoSuchElementException;
import java.util.Random;
import java.util.function.LongSupplier;

/**
 * Runs of at most 512 calls against the model: whatever is asked, both answer the same. What a run
 * needs to know for its next call it asks of the model alone.
 */
public final class RandomRunsTest {
    private static final int RUNS = 1500;
    private static final int CALLS = 512;
    /** A text of 600 bytes takes 34 calls, and a look comes behind it. */
    private static final int MOST_AT_ONCE = 35;
    private static final long MISSING = Long.MIN_VALUE;

    private static int wrong = 0;

    private final Random random;
    private final Pit pit = new Pit();
    private final Model model = new Model();
    private final StringBuilder log = new StringBuilder();
    private final int members;
    private final int months;
    private final int kind;
    private int calls;

    private RandomRunsTest(long seed) {
        random = new Random(seed);
        members = 2 + random.nextInt(11);
        kind = random.nextInt(5);
        months = 1 + random.nextInt(kind == 1 ? 3 : 6);
    }

    public static void main(String[] args) {
        for (int seed = 0; seed < RUNS && wrong < 5; seed++) {
            new RandomRunsTest(seed).run();
        }
        System.out.println("RandomRunsTest: " + RUNS + " runs, " + wrong + " wrong");
        if (wrong != 0) {
            System.exit(1);
        }
    }

    private void run() {
        boolean rich = kind == 1 || random.nextBoolean();
        for (int i = 0; i < members; i++) {
            int of = i;
            same("member()", pit::member, model::member);
            if (rich) {
                same("pay(" + of + ", 3000)", () -> pit.pay(of, 3000), () -> model.pay(of, 3000));
            }
        }
        boolean right = true;
        while (calls < CALLS - MOST_AT_ONCE && right) {
            int before = wrong;
            if (kind == 1 && calls > 200) {
                deliver();
            } else {
                act();
            }
            if (random.nextInt(3) != 0) {
                look();
            }
            right = wrong == before;
        }
        while (calls < CALLS && right) {
            look();
        }
    }

    private static long answer(LongSupplier call) {
        try {
            return call.getAsLong();
        } catch (NoSuchElementException missing) {
            return MISSING;
        }
    }

    private long same(String call, LongSupplier ofPit, LongSupplier ofModel) {
        calls++;
        long got = answer(ofPit);
        long due = answer(ofModel);
        log.append(call).append(" -> ").append(got).append('\n');
        if (got != due) {
            wrong++;
            System.out.println("Behind this run:\n" + log + call + " answered " + got + ", due is " + due);
        }
        return got;
    }

    private static long bit(boolean b) {
        return b ? 1 : 0;
    }

    /** Mostly one that there is, now and then one beside. */
    private int near(int size) {
        return random.nextInt(40) == 0 ? random.nextInt(5) - 2 + (random.nextBoolean() ? size : 0)
                : random.nextInt(Math.max(1, size));
    }

    private int anyMember() {
        return near(model.count(1));
    }

    private int anyMonth() {
        return random.nextInt(30) == 0 ? random.nextInt(8) - 1 : random.nextInt(months);
    }

    private void act() {
        int dice = random.nextInt(100);
        if (dice < 55) {
            order();
        } else if (dice < 60) {
            int m = anyMember();
            int month = anyMonth();
            same("cancel(" + m + ", " + month + ")", () -> pit.cancel(m, month), () -> model.cancel(m, month));
        } else if (dice < 64) {
            int t = near(model.count(2));
            same("strike(" + t + ")", () -> bit(pit.strike(t)), () -> bit(model.strike(t)));
        } else if (dice < (kind == 0 ? 70 : 66)) {
            same("night()", pit::night, model::night);
        } else if (dice < 73) {
            int m = anyMember();
            int v = random.nextInt(30) == 0 ? 1000001 : random.nextInt(4000) - 1500;
            same("pay(" + m + ", " + v + ")", () -> pit.pay(m, v), () -> model.pay(m, v));
        } else if (dice < 77) {
            text();
        } else if (dice < 80) {
            int month = anyMonth();
            int day = near(model.count(0));
            int price = random.nextInt(20) == 0 ? random.nextInt(3) * 10000 : price();
            same("right(" + month + ", " + day + ", " + price + ")",
                    () -> bit(pit.right(month, day, price)), () -> bit(model.right(month, day, price)));
        } else if (dice < 82 && kind != 0) {
            close(random.nextInt(kind == 1 ? 9 : 4) == 0 ? anyMonth() : 7);
        } else if (dice < 84 && members < 12) {
            same("member()", pit::member, model::member);
        } else {
            deliver();
        }
    }

    private int price() {
        return kind == 2 ? 1 + random.nextInt(300) : 95 + random.nextInt(11);
    }

    private void order() {
        int m = anyMember();
        boolean buy = kind == 3 ? random.nextInt(3) < (m < 2 ? 2 : 1) : random.nextBoolean();
        int month = anyMonth();
        int price = random.nextInt(50) == 0 ? random.nextInt(3) * 10000 : price();
        int lots = random.nextInt(50) == 0 ? random.nextInt(53) : 1 + random.nextInt(kind == 4 ? 3 : 9);
        same("order(" + m + ", " + buy + ", " + month + ", " + price + ", " + lots + ")",
                () -> pit.order(m, buy, month, price, lots), () -> model.order(m, buy, month, price, lots));
    }

    private void close(int month) {
        same("deliver(" + month + ")", () -> bit(pit.deliver(month)), () -> bit(model.deliver(month)));
    }

    private int memberThatIsShort(int month) {
        for (int tries = 0; tries < 20; tries++) {
            int m = random.nextInt(model.count(1));
            if (model.position(m, month) < 0) {
                return m;
            }
        }
        return anyMember();
    }

    private void deliver() {
        int dice = random.nextInt(24);
        int n = near(model.count(6));
        int month = random.nextInt(months);
        if (dice < 5) {
            int m = memberThatIsShort(month);
            int grade = near(4);
            int place = near(4);
            same("receipt(" + m + ", " + grade + ", " + place + ")",
                    () -> pit.receipt(m, grade, place), () -> model.receipt(m, grade, place));
        } else if (dice < 13) {
            // mostly by one that has the receipt
            int r = near(model.count(5));
            int owner = model.stored(r, 2);
            int m = random.nextInt(10) == 0 || owner < 0 ? anyMember() : owner;
            same("notice(" + m + ", " + month + ", " + r + ")",
                    () -> pit.notice(m, month, r), () -> model.notice(m, month, r));
        } else if (dice < 18) {
            same("pass(" + n + ")", () -> pit.pass(n), () -> model.pass(n));
        } else if (dice < 22) {
            same("keep(" + n + ")", () -> pit.keep(n), () -> model.keep(n));
        } else if (dice < 23 && kind == 1) {
            close(month);
        } else if (random.nextInt(kind == 1 ? 2 : 9) == 0) {
            same("night()", pit::night, model::night);
        }
    }

    private void text() {
        String text = new RandomText(random).text();
        if (random.nextInt(4) != 0) {
            // a tame one, so that orders go on
            String[] tame = {"limit from 0 is 200;", "keep from 0 is lots+day;first from 0 is lots*2;",
                "fee from 1 is 1+lots+day;", "diff from 0 is grade*3-place+price/9;", "cap from 0 is 60+month;",
                "first from 2 is 10;keep from 2 is 12;", "keep from 0 is price/20;first from 0 is price/15;",
                "limit from 3 is 0?1:price*2;"};
            text = tame[random.nextInt(tame.length)];
        }
        for (int i = 0; i < text.length(); i += 20) {
            int[] five = new int[5];
            for (int k = 0; k < 20; k++) {
                int c = i + k < text.length() ? text.charAt(i + k) & 255 : random.nextInt(256);
                five[k / 4] = five[k / 4] << 8 | c;
            }
            same("feed(" + five[0] + ", " + five[1] + ", " + five[2] + ", " + five[3] + ", " + five[4] + ")",
                    () -> pit.feed(five[0], five[1], five[2], five[3], five[4]), () -> model.feed(five));
        }
        int length = text.length();
        same("end(" + length + ")", () -> bit(pit.end(length)), () -> bit(model.end(length)));
        same("rules()", pit::rules, model::rules);
        if (same("fault(0)", () -> pit.fault(0), () -> model.fault(0)) != 0) {
            same("fault(1)", () -> pit.fault(1), () -> model.fault(1));
        }
    }

    private void look() {
        int what = near(9);
        int m = anyMember();
        int month = anyMonth();
        int day = near(model.count(0));
        int known = day + near(Math.max(1, model.count(0) - day + 1));
        int i = near(4);
        switch (random.nextInt(14)) {
            case 0:
                same("count(" + what + ")", () -> pit.count(what), () -> model.count(what));
                break;
            case 1:
                same("money(" + m + ", " + what + ")", () -> pit.money(m, what), () -> model.money(m, what));
                break;
            case 2:
                same("money(" + m + ", 1)", () -> pit.money(m, 1), () -> model.money(m, 1));
                break;
            case 3:
                same("position(" + m + ", " + month + ")",
                        () -> pit.position(m, month), () -> model.position(m, month));
                break;
            case 4:
                same("longOf(" + month + ", " + i + ", " + what % 3 + ")",
                        () -> pit.longOf(month, i, what % 3), () -> model.longOf(month, i, what % 3));
                break;
            case 5:
                boolean buy = random.nextBoolean();
                same("waiting(" + buy + ", " + month + ", " + i + ", " + what % 4 + ")",
                        () -> pit.waiting(buy, month, i, what % 4), () -> model.waiting(buy, month, i, what % 4));
                break;
            case 6:
                int t = near(model.count(2));
                same("trade(" + t + ", " + what + ")", () -> pit.trade(t, what), () -> model.trade(t, what));
                break;
            case 7:
                int n = near(model.count(6));
                same("told(" + n + ", " + what % 7 + ")",
                        () -> pit.told(n, what % 7), () -> model.told(n, what % 7));
                break;
            case 8:
                int r = near(model.count(5));
                same("stored(" + r + ", " + what % 5 + ")",
                        () -> pit.stored(r, what % 5), () -> model.stored(r, what % 5));
                break;
            case 9:
            case 10:
                same("squeeze(" + month + ", " + what % 6 + ")",
                        () -> pit.squeeze(month, what % 6), () -> model.squeeze(month, what % 6));
                break;
            case 11:
                same("settle(" + month + ", " + day + ", " + known + ")",
                        () -> pit.settle(month, day, known), () -> model.settle(month, day, known));
                break;
            case 12:
                same("equity(" + m + ", " + day + ", " + known + ")",
                        () -> pit.equity(m, day, known), () -> model.equity(m, day, known));
                break;
            default:
                int name = near(6);
                same("rule(" + name + ", " + day + ", 1, 99, 3, 2, 1)",
                        () -> pit.rule(name, day, 1, 99, 3, 2, 1), () -> model.rule(name, day, 1, 99, 3, 2, 1));
                break;
        }
    }
}
