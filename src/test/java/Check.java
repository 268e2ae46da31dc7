import java.util.NoSuchElementException;
import java.util.function.LongSupplier;

/** What the tests share: answers against those that are due, and texts laid on the tape. */
final class Check {
    private static int wrong = 0;
    private static int asked = 0;

    private Check() {
    }

    static void is(String call, long got, long due) {
        asked++;
        if (got != due) {
            wrong++;
            System.out.println(call + " answered " + got + ", due is " + due);
        }
    }

    static void is(String call, boolean got, boolean due) {
        is(call, got ? 1 : 0, due ? 1 : 0);
    }

    static void isMissing(String call, LongSupplier answer) {
        asked++;
        try {
            long got = answer.getAsLong();
            wrong++;
            System.out.println(call + " answered " + got + ", due is NoSuchElementException");
        } catch (NoSuchElementException expected) {
            // as due
        }
    }

    /** Lays a text on an empty tape; characters are bytes. */
    static void lay(Pit pit, String text) {
        for (int i = 0; i < text.length(); i += 20) {
            int[] five = new int[5];
            for (int k = 0; k < 20; k++) {
                int c = i + k < text.length() ? text.charAt(i + k) & 255 : 0;
                five[k / 4] = five[k / 4] << 8 | c;
            }
            pit.feed(five[0], five[1], five[2], five[3], five[4]);
        }
        pit.end(text.length());
    }

    static int tell(Pit pit, String text) {
        lay(pit, text);
        return pit.rules();
    }

    /** The text is refused with this fault at this place, and leaves the rules as they were. */
    static void isFault(Pit pit, String text, int fault, int place) {
        int before = pit.count(4);
        is("rules() of '" + text + "'", tell(pit, text), GrainPit.NONE);
        is("fault(0) of '" + text + "'", pit.fault(0), fault);
        is("fault(1) of '" + text + "'", pit.fault(1), place);
        is("count(4) behind '" + text + "'", pit.count(4), before);
        is("count(8) behind '" + text + "'", pit.count(8), 0);
    }

    static Pit withMembers(int many) {
        Pit pit = new Pit();
        for (int i = 0; i < many; i++) {
            pit.member();
        }
        return pit;
    }

    /** The buyer buys from the seller, both by orders at one price. */
    static void deal(Pit pit, int buyer, int seller, int month, int lots, int price) {
        is("order of seller " + seller, pit.order(seller, false, month, price, lots), 0);
        is("order of buyer " + buyer, pit.order(buyer, true, month, price, lots), lots);
    }

    static void finish(String test) {
        System.out.println(test + ": " + asked + " asked, " + wrong + " wrong");
        if (wrong != 0) {
            System.exit(1);
        }
    }
}
