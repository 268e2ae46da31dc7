import java.util.NoSuchElementException;
import java.util.Random;

/** Texts with slips, each on a new object: faults, places and values against the model. */
public final class RandomTextsTest {
    private static final int TEXTS = 20000;

    private RandomTextsTest() {
    }

    public static void main(String[] args) {
        Random random = new Random(7);
        int[] found = new int[5];
        for (int i = 0; i < TEXTS; i++) {
            String text = new RandomText(random).text();
            Pit pit = new Pit();
            RuleModel model = new RuleModel();
            Check.is("rules() of '" + text + "'", Check.tell(pit, text), model.tell(text));
            Check.is("fault(0) of '" + text + "'", pit.fault(0), model.fault);
            if (model.fault != 0) {
                Check.is("fault(1) of '" + text + "'", pit.fault(1), model.place);
            }
            found[model.fault]++;
            values(random, pit, model, text);
        }
        for (int fault = 0; fault < 5; fault++) {
            Check.is("some texts with fault " + fault, found[fault] > 50, true);
        }
        Check.finish("RandomTextsTest");
    }

    private static void values(Random random, Pit pit, RuleModel model, String text) {
        for (int name = 0; name < 6; name++) {
            int day = random.nextInt(12);
            int price = random.nextInt(4) == 0 ? random.nextInt() : random.nextInt(200);
            int lots = random.nextInt(4) == 0 ? random.nextInt() : random.nextInt(60);
            int grade = random.nextInt(4);
            int place = random.nextInt(4);
            int got;
            try {
                got = pit.rule(name, day, 3, price, lots, grade, place);
            } catch (NoSuchElementException never) {
                Check.is("rule " + name + " of '" + text + "' is there", false, true);
                continue;
            }
            Check.is("rule " + name + " of '" + text + "'", got,
                    model.value(name, day, 3, price, lots, grade, place));
        }
    }
}
