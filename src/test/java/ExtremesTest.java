import java.lang.reflect.InvocationTargetException;
import java.lang.reflect.Method;
import java.lang.reflect.Modifier;
import java.nio.charset.StandardCharsets;
import java.util.ArrayList;
import java.util.Arrays;
import java.util.List;

/**
 * Every call of the face in several states with every number that is just within, at or just outside some
 * bound, or the least or greatest int: it answers or throws as Model does, and throws only what it declares.
 */
public final class ExtremesTest {
    private static final int[] ALONE = {
        Integer.MIN_VALUE, Integer.MIN_VALUE + 1, -10000, -256, -102, -101, -62, -61, -7, -6, -5, -4, -3, -2, -1, 0, 1, 2, 3, 4, 5, 6, 7, 8, 9, 10, 11, 12, 13, 14,
        15, 16, 19, 20, 21, 39, 40, 41, 58, 59, 60, 61, 62, 98, 99, 100, 101, 102, 255, 256, 399, 400, 401, 511, 512, 1023, 1024,
        9998, 9999, 10000, Integer.MAX_VALUE - 1, Integer.MAX_VALUE};
    private static final int[] OF_TWO = {
        Integer.MIN_VALUE, -101, -7, -6, -5, -4, -2, -1, 0, 1, 3, 4, 5, 6, 7, 8, 9, 10, 11, 15, 59, 60, 61, 99, 100, 101, 255, 1023, 1024, Integer.MAX_VALUE};
    private static final int[] OF_MORE = {Integer.MIN_VALUE, -1, 0, 1, 3, 4, 9, 10, 99, 100, 101, Integer.MAX_VALUE};
    private static final int CALLS_EACH = 300;
    private static final String[][] STATES = {
        {},
        {"hill:plank 99"},
        {"hill:plank 60 age 9;plank 400;thing 20 worth 9 in 0;thing 30 worth 50 in 3;thing 5 worth 5 in 1",
            "law:rent 5 if up;lure 9 if load > 20;age 2 if level", "prop:0", "carry:3", "weeks:2"},
        {"hill:plank 400;plank 20;plank 300;plank 44;plank 10;guests 3 4;snow 9;fall 40;thieves 90;step 7",
            "hill:thing 9 worth 9 in 0;thing 8 worth 8 in 1;thing 7 worth 7 in 2;thing 6 worth 6 in 9;thing 60 worth 99 in 8",
            "hill:thing 1 worth 1 in 4;thing 2 worth 1 in 5;thing 3 worth 2 in 6;thing 4 worth 3 in 7;thing 5 worth 0 in 7",
            "weeks:5", "prop:2", "carry:2"},
        {"hill:plank 30;plank 30;thing 9 worth 9 in 0;thing 8 worth 8 in 1;thing 7 worth 0 in 3;thieves 100", "hill:", "hill:", "hill:",
            "hill:", "hill:", "hill:", "hill:", "hill:", "hill:", "hill:", "hill:", "weeks:2", "weeks:40", "carry:70"},
    };
    private static int asked = 0;
    private static int wrong = 0;

    private SeeSawHill hill;
    private Model model;
    private final String[] state;
    private int calls = CALLS_EACH;

    private ExtremesTest(String[] state) {
        this.state = state;
    }

    public static void main(String[] args) throws Exception {
        for (String[] state : STATES) {
            for (Method m : SeeSawHill.class.getDeclaredMethods()) {
                if (Modifier.isPublic(m.getModifiers())) new ExtremesTest(state).ask(m);
            }
        }
        System.out.println("ExtremesTest: " + asked + " asked, " + wrong + " wrong");
        if (wrong != 0) System.exit(1);
    }

    private void ask(Method m) throws Exception {
        Class<?>[] types = m.getParameterTypes();
        long numbers = Arrays.stream(types).filter(t -> t == int.class).count();
        int[] each = numbers <= 1 ? ALONE : numbers == 2 ? OF_TWO : OF_MORE;
        if (numbers == 5) each = new int[] {Integer.MIN_VALUE, 0, Integer.MAX_VALUE};
        for (Object[] arguments : ways(types, each, 0)) {
            // An object answers for its first 512 calls alone, and acts must not pile up.
            if (calls++ >= CALLS_EACH || m.getName().equals("weeks")) start();
            both(m, arguments);
        }
    }

    private static List<Object[]> ways(Class<?>[] types, int[] each, int from) {
        List<Object[]> all = new ArrayList<>();
        if (from == types.length) {
            all.add(new Object[types.length]);
            return all;
        }
        for (Object[] rest : ways(types, each, from + 1)) {
            List<Object> here = new ArrayList<>();
            if (types[from] == int.class) for (int n : each) here.add(n);
            else here.addAll(List.of(true, false));
            for (Object one : here) {
                Object[] way = rest.clone();
                way[from] = one;
                all.add(way);
            }
        }
        return all;
    }

    private void start() {
        hill = new SeeSawHill();
        model = new Model();
        calls = 0;
        for (String step : state) {
            int colon = step.indexOf(':');
            String with = step.substring(colon + 1);
            switch (step.substring(0, colon)) {
                case "hill" -> {
                    put(with);
                    hill.hill();
                    model.hill();
                }
                case "law" -> {
                    put(with);
                    hill.law();
                    model.law();
                }
                case "weeks" -> {
                    hill.weeks(Integer.parseInt(with));
                    model.weeks(Integer.parseInt(with));
                }
                case "prop" -> {
                    hill.prop(Integer.parseInt(with), true);
                    model.prop(Integer.parseInt(with), true);
                }
                default -> carryLast(Integer.parseInt(with));
            }
        }
    }

    /** Carries the last THING, which no state's thieves take. */
    private void carryLast(int times) {
        int last = model.count(1) - 1;
        for (int i = 0; i < times; i++) {
            hill.carry(last, i % 2);
            model.carry(last, i % 2);
        }
    }

    private void put(String text) {
        byte[] bytes = text.getBytes(StandardCharsets.ISO_8859_1);
        for (int at = 0; at < bytes.length; at += 20) {
            int[] n = new int[5];
            for (int i = 0; i < 20; i++) n[i / 4] = n[i / 4] << 8 | (at + i < bytes.length ? bytes[at + i] & 255 : 0);
            hill.feed(n[0], n[1], n[2], n[3], n[4]);
            model.feed(n[0], n[1], n[2], n[3], n[4]);
        }
        hill.end(bytes.length);
        model.end(bytes.length);
    }

    private void both(Method m, Object[] arguments) throws Exception {
        Object got = call(m, hill, arguments);
        Object due = call(Model.class.getDeclaredMethod(m.getName(), m.getParameterTypes()), model, arguments);
        boolean declared = !(got instanceof Class) || Arrays.asList(m.getExceptionTypes()).contains(got);
        boolean same = got == null ? due == null : got.equals(due);
        asked++;
        if (same && declared) return;
        wrong++;
        if (wrong <= 20) System.out.println(m.getName() + Arrays.toString(arguments) + " answered " + got + ", due is " + due + " behind " + Arrays.toString(state));
    }

    private static Object call(Method m, Object on, Object[] arguments) throws Exception {
        m.setAccessible(true);
        try {
            return m.invoke(on, arguments);
        } catch (InvocationTargetException e) {
            return e.getCause().getClass();
        }
    }
}
