import java.io.IOException;
import java.lang.reflect.InvocationTargetException;
import java.lang.reflect.Method;
import java.nio.file.Files;
import java.nio.file.Path;
import java.util.regex.Matcher;
import java.util.regex.Pattern;

/** Runs README.md's example: each line with an answer behind it is asked for that. */
public final class ReadmeTest extends Checks {
    private static final Pattern PUT = Pattern.compile("put\\(x, \"(.*)\"\\);");
    private static final Pattern CALL = Pattern.compile("x\\.(\\w+)\\((.*?)\\); +// (throws \\w+|-?\\w+)(:.*)?");

    public static void main(String[] args) throws IOException, IllegalAccessException {
        SeeSawHill x = new SeeSawHill();
        int calls = 0;
        for (String line : Files.readAllLines(Path.of("README.md"))) {
            Matcher put = PUT.matcher(line);
            if (put.matches()) put(x, put.group(1));
            Matcher call = CALL.matcher(line);
            if (call.matches()) {
                calls++;
                due(line, answer(x, call.group(1), call.group(2)), call.group(3));
            } else {
                due("has no answer: " + line, line.startsWith("x."), false);
            }
        }
        due("calls were found", calls > 15, true);
        finish("ReadmeTest");
    }

    private static String answer(SeeSawHill x, String name, String args) throws IllegalAccessException {
        String[] told = args.isEmpty() ? new String[0] : args.split(", ");
        Object[] given = new Object[told.length];
        Method method = named(name);
        for (int i = 0; i < told.length; i++) {
            boolean truth = method.getParameterTypes()[i] == boolean.class;
            given[i] = truth ? (Object) Boolean.valueOf(told[i]) : Integer.valueOf(told[i]);
        }
        try {
            return String.valueOf(method.invoke(x, given));
        } catch (InvocationTargetException e) {
            return "throws " + e.getCause().getClass().getSimpleName();
        }
    }

    private static Method named(String name) {
        for (Method m : SeeSawHill.class.getMethods()) if (m.getName().equals(name)) return m;
        throw new IllegalStateException("the face has not " + name);
    }
}
