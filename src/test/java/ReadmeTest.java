import java.io.IOException;
import java.lang.reflect.Method;
import java.nio.file.Files;
import java.nio.file.Path;
import java.util.List;
import java.util.regex.Matcher;
import java.util.regex.Pattern;

/** README.md's example is carried out as it stands there: each call answers what is written behind it. */
public final class ReadmeTest {
    private static final Pattern CALL = Pattern.compile("pit\\.(\\w+)\\((.*?)\\); +// (true|false|-?\\d+)\\b.*");

    private ReadmeTest() {
    }

    public static void main(String[] args) throws IOException, ReflectiveOperationException {
        GrainPit pit = new GrainPit();
        List<String> lines = Files.readAllLines(Path.of("README.md"));
        int calls = 0;
        for (String line : lines) {
            if (line.startsWith("pit.")) {
                Matcher call = CALL.matcher(line);
                Check.is("is a call with its answer: " + line, call.matches(), true);
                if (call.matches()) {
                    String got = answer(pit, call.group(1), call.group(2));
                    Check.is("(answered " + got + ") " + line, got.equals(call.group(3)), true);
                    calls++;
                }
            }
        }
        Check.is("calls were found", calls > 0, true);
        Check.finish("ReadmeTest");
    }

    private static String answer(GrainPit pit, String name, String written) throws ReflectiveOperationException {
        String[] words = written.isEmpty() ? new String[0] : written.split(", *");
        for (Method method : GrainPit.class.getMethods()) {
            if (method.getName().equals(name) && method.getParameterCount() == words.length) {
                Object[] values = new Object[words.length];
                for (int i = 0; i < words.length; i++) {
                    boolean isNumber = method.getParameterTypes()[i] == int.class;
                    values[i] = isNumber ? (Object) Integer.decode(words[i]) : (Object) Boolean.valueOf(words[i]);
                }
                return String.valueOf(method.invoke(pit, values));
            }
        }
        throw new NoSuchMethodException(name);
    }
}
