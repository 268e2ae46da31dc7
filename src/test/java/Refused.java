import java.util.function.Consumer;
import java.util.function.Predicate;
import java.util.function.Supplier;
import java.util.function.ToLongFunction;

/**
 * Calls that are refused in a scene: what they answer, and that they change nothing, neither what
 * can be seen at once nor what later calls come to.
 */
final class Refused {
    private record Sequel(String name, Consumer<Pit> calls) {
    }

    private static final Sequel[] SEQUELS = {
        new Sequel("at once", pit -> { }),
        new Sequel("behind night()", Pit::night),
        new Sequel("behind rules()", Pit::rules),
        new Sequel("behind cancels", Refused::cancelAll),
        new Sequel("behind passes", Refused::passAll),
        new Sequel("behind keeps", Refused::keepAll)};

    private final Supplier<Pit> scene;

    Refused(Supplier<Pit> scene) {
        this.scene = scene;
    }

    void isNone(String name, ToLongFunction<Pit> call) {
        answers(name, call, GrainPit.NONE);
    }

    void isFalse(String name, Predicate<Pit> call) {
        answers(name, pit -> call.test(pit) ? 1 : 0, 0);
    }

    void isMissing(String name, ToLongFunction<Pit> call) {
        answers(name, call, Seen.MISSING);
    }

    void answers(String name, ToLongFunction<Pit> call, long due) {
        Check.is(name, Seen.answer(scene.get(), call), due);
        for (Sequel sequel : SEQUELS) {
            Seen.areSame(name + " is refused, " + sequel.name,
                    () -> made(pit -> 0, sequel), () -> made(call, sequel));
        }
    }

    private Pit made(ToLongFunction<Pit> call, Sequel sequel) {
        Pit pit = scene.get();
        Seen.answer(pit, call);
        sequel.calls.accept(pit);
        return pit;
    }

    private static void cancelAll(Pit pit) {
        for (int member = 0; member < 4; member++) {
            for (int month = 0; month < 6; month++) {
                pit.cancel(member, month);
            }
        }
    }

    private static void passAll(Pit pit) {
        for (int notice = 0; notice < 8; notice++) {
            pit.pass(notice);
        }
    }

    private static void keepAll(Pit pit) {
        for (int notice = 0; notice < 8; notice++) {
            pit.keep(notice);
        }
    }
}
