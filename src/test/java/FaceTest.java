import java.lang.reflect.Constructor;
import java.lang.reflect.Field;
import java.lang.reflect.Method;
import java.lang.reflect.Modifier;
import java.util.Arrays;
import java.util.TreeSet;

/** The public face, and promise 1: a new object. */
public final class FaceTest {
    private static final String[] METHODS = {
        "int feed(int,int,int,int,int)", "boolean end(int)", "int rules()", "int fault(int)",
        "int rule(int,int,int,int,int,int,int)", "int member()", "long pay(int,int)",
        "int order(int,boolean,int,int,int)", "int cancel(int,int)",
        "int waiting(boolean,int,int,int)", "int trade(int,int)", "boolean strike(int)",
        "int night()", "long money(int,int)", "int position(int,int)", "int longOf(int,int,int)",
        "int count(int)", "boolean deliver(int)", "int receipt(int,int,int)",
        "int notice(int,int,int)", "int pass(int)", "int keep(int)", "int told(int,int)",
        "int stored(int,int)", "int squeeze(int,int)", "boolean right(int,int,int)",
        "int settle(int,int,int)", "long equity(int,int,int)"};

    private FaceTest() {
    }

    public static void main(String[] args) {
        face();
        newObject();
        objectsAreApart();
        Check.finish("FaceTest");
    }

    private static void face() {
        TreeSet<String> found = new TreeSet<>();
        TreeSet<String> publicNames = new TreeSet<>();
        for (Method m : GrainPit.class.getDeclaredMethods()) {
            if (!Modifier.isPrivate(m.getModifiers())) {
                Check.is(m + " is public and of the object", Modifier.isPublic(m.getModifiers())
                        && !Modifier.isStatic(m.getModifiers()), true);
                found.add(signature(m));
                publicNames.add(m.getName());
            }
        }
        TreeSet<String> due = new TreeSet<>(Arrays.asList(METHODS));
        Check.is("methods are those of the document: " + found, found.equals(due), true);
        for (Method m : GrainPit.class.getDeclaredMethods()) {
            Check.is(m + " is private under a name of the face",
                    Modifier.isPrivate(m.getModifiers()) && publicNames.contains(m.getName()), false);
        }
        for (Field f : GrainPit.class.getDeclaredFields()) {
            Check.is(f + " is private, or NONE",
                    Modifier.isPrivate(f.getModifiers()) || f.getName().equals("NONE"), true);
        }
        Constructor<?>[] makers = GrainPit.class.getDeclaredConstructors();
        Check.is("constructors", makers.length, 1);
        Check.is("constructor's parameters", makers[0].getParameterCount(), 0);
        Check.is("class is final", Modifier.isFinal(GrainPit.class.getModifiers()), true);
        Check.is("NONE", GrainPit.NONE, -1);
    }

    private static String signature(Method m) {
        StringBuilder text = new StringBuilder();
        for (Class<?> type : m.getParameterTypes()) {
            text.append(text.length() == 0 ? "" : ",").append(type.getName());
        }
        return m.getReturnType().getName() + " " + m.getName() + "(" + text + ")";
    }

    private static void newObject() {
        Pit pit = new Pit();
        for (int what = 0; what <= 8; what++) {
            Check.is("count(" + what + ") when new", pit.count(what), 0);
        }
        Check.is("fault(0) when new", pit.fault(0), 0);
        int[] without = {1000, 0, 0, 1000, 0, 0};
        for (int name = 0; name < 6; name++) {
            Check.is("rule " + name + " when new", pit.rule(name, 7, 1, 2, 3, 1, 1), without[name]);
        }
        for (int month = 0; month < 6; month++) {
            Check.is("squeeze 0 when new", pit.squeeze(month, 0), 0);
            Check.is("squeeze 2 when new", pit.squeeze(month, 2), GrainPit.NONE);
            Check.is("longOf when new", pit.longOf(month, 0, 0), GrainPit.NONE);
            Check.is("settle when new", pit.settle(month, 0, 0), GrainPit.NONE);
        }
        Check.is("trade when new", pit.trade(0, 0), GrainPit.NONE);
        Check.is("told when new", pit.told(0, 0), GrainPit.NONE);
        Check.is("stored when new", pit.stored(0, 0), GrainPit.NONE);
        Check.isMissing("money when new", () -> pit.money(0, 0));
        Check.isMissing("equity when new", () -> pit.equity(0, 0, 0));
    }

    private static void objectsAreApart() {
        Pit one = Check.withMembers(2);
        Check.deal(one, 0, 1, 0, 3, 10);
        Check.tell(one, "cap from 0 is 5;");
        Pit other = new Pit();
        Check.is("members of another object", other.count(1), 0);
        Check.is("trades of another object", other.count(2), 0);
        Check.is("rules of another object", other.count(4), 0);
    }
}
