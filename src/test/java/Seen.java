import java.util.ArrayList;
import java.util.List;
import java.util.NoSuchElementException;
import java.util.function.Supplier;
import java.util.function.ToLongFunction;

/** All that can be seen of a pit. */
final class Seen {
    static final long MISSING = Long.MIN_VALUE;
    private static final int[] RULE_DAYS = {0, 1, 2, 75, 150};

    private record Look(String call, ToLongFunction<Pit> answer) {
    }

    /** Asks a pit, and a new one that is made alike when the one before was called as often as may be. */
    private static final class Asker {
        private final Supplier<Pit> scene;
        private Pit pit;

        Asker(Supplier<Pit> scene) {
            this.scene = scene;
            pit = scene.get();
        }

        long ask(ToLongFunction<Pit> look) {
            if (pit.left() == 0) {
                pit = scene.get();
            }
            return answer(pit, look);
        }
    }

    private final Asker asker;
    private final List<Look> all = new ArrayList<>();

    private Seen(Supplier<Pit> scene) {
        asker = new Asker(scene);
        rules();
        members();
        for (int month = 0; month < 6; month++) {
            month(month);
        }
        numbered();
        twoTimes();
    }

    /** What a call answers, MISSING if it throws NoSuchElementException. */
    static long answer(Pit pit, ToLongFunction<Pit> call) {
        try {
            return call.applyAsLong(pit);
        } catch (NoSuchElementException missing) {
            return MISSING;
        }
    }

    /** Whatever is looked at, the one answers as the other. */
    static void areSame(String name, Supplier<Pit> due, Supplier<Pit> got) {
        Asker first = new Asker(due);
        Asker second = new Asker(got);
        for (Look look : new Seen(due).all) {
            Check.is(name + ": " + look.call, second.ask(look.answer), first.ask(look.answer));
        }
    }

    private void add(String call, ToLongFunction<Pit> answer) {
        all.add(new Look(call, answer));
    }

    private int count(int what) {
        return (int) asker.ask(pit -> pit.count(what));
    }

    private void rules() {
        for (int what = 0; what <= 8; what++) {
            int w = what;
            add("count(" + w + ")", pit -> pit.count(w));
        }
        add("fault(0)", pit -> pit.fault(0));
        if (asker.ask(pit -> pit.fault(0)) != 0) {
            add("fault(1)", pit -> pit.fault(1));
        }
        for (int name = 0; name < 6; name++) {
            int n = name;
            for (int day : RULE_DAYS) {
                add("rule(" + n + ", " + day + ", 1, 97, 5, 2, 3)", pit -> pit.rule(n, day, 1, 97, 5, 2, 3));
            }
        }
    }

    private void members() {
        int members = count(1);
        for (int member = 0; member < members; member++) {
            int m = member;
            for (int what = 0; what <= 6; what++) {
                int w = what;
                add("money(" + m + ", " + w + ")", pit -> pit.money(m, w));
            }
            for (int month = 0; month < 6; month++) {
                int of = month;
                add("position(" + m + ", " + of + ")", pit -> pit.position(m, of));
            }
        }
    }

    private void month(int month) {
        for (boolean buy : new boolean[] {true, false}) {
            row("waiting(" + buy + ", " + month + ", ", 3, (pit, i, what) -> pit.waiting(buy, month, i, what));
        }
        row("longOf(" + month + ", ", 2, (pit, i, what) -> pit.longOf(month, i, what));
        for (int what = 0; what <= 4; what++) {
            int w = what;
            add("squeeze(" + month + ", " + w + ")", pit -> pit.squeeze(month, w));
        }
    }

    private interface RowLook {
        int answer(Pit pit, int i, int what);
    }

    /** A row to its end, and one behind it. */
    private void row(String call, int whats, RowLook look) {
        boolean more = true;
        for (int i = 0; more; i++) {
            int at = i;
            for (int what = 0; what < whats; what++) {
                int w = what;
                add(call + at + ", " + w + ")", pit -> look.answer(pit, at, w));
            }
            more = asker.ask(pit -> look.answer(pit, at, 0)) != GrainPit.NONE;
        }
    }

    private void numbered() {
        row("trade(", 7, Pit::trade);
        row("stored(", 4, Pit::stored);
        row("told(", 6, Pit::told);
    }

    /** All days as known on all days if they are few, else the first and the last. */
    private void twoTimes() {
        int today = count(0);
        int members = count(1);
        for (int day = 0; day < today; day++) {
            for (int known = day; known <= today; known++) {
                if (today < 6 || day % 149 == 0 && (known == day || known == today)) {
                    known(members, day, known);
                }
            }
        }
    }

    private void known(int members, int day, int known) {
        String times = ", " + day + ", " + known + ")";
        for (int month = 0; month < 6; month++) {
            int of = month;
            add("settle(" + of + times, pit -> pit.settle(of, day, known));
        }
        for (int member = 0; member < members; member++) {
            int m = member;
            add("equity(" + m + times, pit -> pit.equity(m, day, known));
        }
    }
}
