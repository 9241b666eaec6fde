import java.lang.reflect.InvocationTargetException;
import java.lang.reflect.Method;
import java.lang.reflect.Modifier;
import java.util.ArrayList;
import java.util.Arrays;
import java.util.HashSet;
import java.util.List;
import java.util.Map;
import java.util.Random;
import java.util.Set;
import java.util.TreeMap;

/** Holds the class against Model over runs of random calls; the seeds are fixed, so each run is the same anew. */
public final class RandomRunsTest {
    private static final int RUNS = 600;
    private static final int CALLS = 500;

    private static final Map<String, Method> REAL = new TreeMap<>();
    private static final Map<String, Method> MODEL = new TreeMap<>();
    private static final Map<String, Integer> ANSWERED = new TreeMap<>();
    private static final Map<String, Integer> THROWN = new TreeMap<>();
    private static final Map<String, Set<Object>> ANSWERS = new TreeMap<>();

    private final Random random;
    private final SeeSawHill hill = new SeeSawHill();
    private final Model model = new Model();
    private final List<String> told = new ArrayList<>();
    private int calls;

    private RandomRunsTest(long seed) {
        random = new Random(seed);
    }

    public static void main(String[] args) throws Exception {
        for (Method m : SeeSawHill.class.getDeclaredMethods()) {
            if (!Modifier.isPublic(m.getModifiers())) continue;
            REAL.put(m.getName(), m);
            MODEL.put(m.getName(), Model.class.getDeclaredMethod(m.getName(), m.getParameterTypes()));
        }
        int wrong = 0;
        for (int run = 1; run <= RUNS && wrong < 5; run++) {
            RandomRunsTest test = new RandomRunsTest(run);
            if (!test.run(run % 6)) {
                wrong++;
                System.out.println("run " + run + " differs:");
                List<String> t = test.told;
                for (String line : t.subList(Math.max(0, t.size() - 40), t.size())) System.out.println("  " + line);
            }
        }
        for (String name : REAL.keySet()) {
            if (ANSWERED.getOrDefault(name, 0) < RUNS / 2) {
                System.out.println(name + " was answered only " + ANSWERED.get(name) + " times");
                wrong++;
            }
            if (args.length > 0) {
                System.out.println(name + ": " + ANSWERED.get(name) + " answered, " + THROWN.get(name) + " thrown, "
                        + ANSWERS.get(name).size() + " different answers");
            }
            boolean throwing = REAL.get(name).getExceptionTypes().length > 0;
            if (throwing && THROWN.getOrDefault(name, 0) < RUNS / 10) {
                System.out.println(name + " threw only " + THROWN.get(name) + " times");
                wrong++;
            }
        }
        System.out.println(wrong == 0 ? "RandomRunsTest: all runs as the model's" : "RandomRunsTest: " + wrong + " wrong");
        if (wrong != 0) System.exit(1);
    }

    private static Object call(Map<String, Method> of, Object on, String name, Object[] args) throws Exception {
        try {
            Method m = of.get(name);
            m.setAccessible(true);
            return m.invoke(on, args);
        } catch (InvocationTargetException e) {
            return e.getCause().getClass();
        }
    }

    /** Calls both; whether they answer the same. */
    private boolean both(String name, Object... args) throws Exception {
        calls++;
        Object got = call(REAL, hill, name, args);
        Object due = call(MODEL, model, name, args);
        (got instanceof Class ? THROWN : ANSWERED).merge(name, 1, Integer::sum);
        ANSWERS.computeIfAbsent(name, k -> new HashSet<>()).add(String.valueOf(got));
        boolean same = got == null ? due == null : got.equals(due);
        if (got instanceof Class<?> c && !Arrays.asList(REAL.get(name).getExceptionTypes()).contains(c)) same = false;
        told.add(name + Arrays.toString(args) + " answered " + got + (same ? "" : ", due is " + due));
        return same;
    }

    private boolean feedText(byte[] text) throws Exception {
        for (int at = 0; at < text.length; at += 20) {
            Object[] n = new Object[5];
            for (int i = 0; i < 5; i++) {
                int word = 0;
                for (int k = 0; k < 4; k++) {
                    int j = at + 4 * i + k;
                    word = word << 8 | (j < text.length ? text[j] & 255 : 0);
                }
                n[i] = word;
            }
            if (!both("feed", n)) return false;
        }
        if (random.nextInt(40) != 0 && !both("end", text.length)) return false;
        told.add("    text: " + new String(text, java.nio.charset.StandardCharsets.ISO_8859_1));
        return true;
    }

    private boolean run(int kind) throws Exception {
        if (kind != 0) {
            if (!feedText(firstHill(kind)) || !both("hill") || !both("fault")) return false;
        }
        List<String> names = new ArrayList<>(REAL.keySet());
        while (calls < CALLS - 30) {
            String name = names.get(random.nextInt(names.size()));
            if (!step(name, kind)) return false;
        }
        return true;
    }

    private boolean step(String name, int kind) throws Exception {
        switch (name) {
            case "hill":
                if (kind > 0 && random.nextInt(3) != 0) return true;
                return (kind > 0 || random.nextInt(3) == 0 || step("hill", kind)) && feedText(mutated(randomHill(1 + random.nextInt(random.nextInt(8) == 0 ? 15 : 3)))) && both("hill") && both("fault");
            case "law":
                return feedText(mutated(randomLaw())) && both("law") && both("fault");
            case "has":
                return feedText(randomTold()) && both("has", plank(), random.nextBoolean());
            case "ask":
                return feedText(randomTold()) && both("ask", plank());
            case "weeks":
                return someWeeks(kind);
            case "feed":
                return random.nextInt(4) != 0 || both("feed", random.nextInt(), random.nextInt(), 7, 8, 9) && (random.nextInt(3) != 0 || both("end", random.nextInt(30) - 2));
            case "end":
                return both("end", random.nextInt(30) - 3);
            case "back":
                return random.nextInt(8) != 0 || both("back");
            case "undo":
                if (kind == 5 && random.nextInt(4) != 0) return true;
                for (int i = random.nextInt(random.nextInt(6) == 0 ? 16 : 3); i >= 0; i--) if (!both("undo")) return false;
                return true;
            case "seed":
                return both("seed", random.nextBoolean() ? random.nextInt() : random.nextInt(8));
            case "carry":
                for (int i = random.nextInt(kind == 5 ? 12 : 4); i >= 0; i--) if (!both("carry", thing(), house())) return false;
                return true;
            case "log":
                return both("log", number(0, random.nextBoolean() ? 59 : 5), number(0, 4));
            case "count":
                return both("count", number(0, 14));
            default:
                return (!name.equals("mend") || kind != 4 || both("mend", plank())) && both(name, arguments(name));
        }
    }

    /** Most WEEKS are undone, as else soon all is stolen, broken and paid away. */
    private boolean someWeeks(int kind) throws Exception {
        if (kind == 5 && random.nextInt(4) != 0) return true;
        if (!both("weeks", kind % 2 == 0 ? number(1, 3) : number(1, 60))) return false;
        String[] asked = {"plank", "house", "breaks", "more", "trial", "guards", "loot", "best", "heave", "ahead", "mend", "led", "log"};
        for (int i = random.nextInt(6); i > 0; i--) if (!step(asked[random.nextInt(asked.length)], kind)) return false;
        boolean stays = random.nextInt(12) < (kind == 2 || kind == 4 ? 8 : kind == 0 ? 4 : 1);
        for (int i = 0; i < 3 && !stays; i++) if (!both("undo")) return false;
        return true;
    }

    private Object[] arguments(String name) {
        switch (name) {
            case "plank": return new Object[] {plank(), number(0, 6)};
            case "house": return new Object[] {house(), number(0, 8)};
            case "thing": return new Object[] {thing(), number(0, 2)};
            case "guests": return new Object[] {house(), number(0, 9)};
            case "prop": return new Object[] {plank(), random.nextInt(4) == 0};
            case "mend": case "best": case "breaks": case "more": case "ballast": return new Object[] {plank()};
            case "give": return new Object[] {house(), house(), random.nextInt(5) == 0 ? number(-3, 9999) : number(1, 40)};
            case "stand": return new Object[] {plank(), number(-5, 5)};
            case "heave": return new Object[] {plank(), number(-5, 5), random.nextBoolean()};
            case "match": return new Object[] {random.nextInt(5) == 0 ? random.nextInt() : random.nextInt(1024), random.nextBoolean() ? Integer.valueOf(-1) : house()};
            case "guards": return new Object[] {number(0, 8), number(0, 99)};
            case "loot": return new Object[] {number(0, 10)};
            case "rent": return new Object[] {house(), number(0, 100)};
            case "ahead": return new Object[] {house(), number(0, 100), random.nextBoolean()};
            case "trial": case "span": return new Object[] {number(0, 60), random.nextBoolean()};
            case "led": return new Object[] {thing(), random.nextBoolean()};
            default: return new Object[0];
        }
    }

    /** Mostly within the bounds, at times just outside or anything. */
    private int number(int least, int most) {
        int r = random.nextInt(30);
        if (r == 0) return least - 1;
        if (r == 1) return most + 1;
        if (r == 2) return random.nextInt();
        if (r == 3) return least;
        if (r == 4) return most;
        return least + random.nextInt(most - least + 1);
    }

    private Integer plank() {
        return number(0, Math.max(0, model.count(0) - 1));
    }

    private Integer house() {
        return number(0, Math.max(0, 2 * model.count(0) - 1));
    }

    private Integer thing() {
        return number(0, Math.max(0, model.count(1) - 1));
    }

    private String blanks() {
        return random.nextInt(12) == 0 ? "  " : "";
    }

    private byte[] firstHill(int kind) {
        StringBuilder b = new StringBuilder();
        int planks = kind == 1 ? 5 : 1 + random.nextInt(4);
        for (int p = 0; p < planks; p++) {
            if (p > 0) b.append(';');
            b.append("plank ").append(kind == 4 ? 20 + random.nextInt(90) : 60 + random.nextInt(341));
        }
        b.append(";step ").append(1 + random.nextInt(15));
        b.append(";thieves ").append(kind == 2 ? 100 : kind == 5 ? 0 : random.nextInt(30));
        b.append(random.nextBoolean() ? ";fee " : ";fall ").append(random.nextInt(kind == 3 ? 2 : 101));
        int things = 14 - planks - 3 - random.nextInt(3);
        for (int t = 0; t < things; t++) {
            b.append(";thing ").append(1 + random.nextInt(kind == 3 ? 8 : 60)).append(" worth ").append(random.nextInt(kind == 4 ? 4 : 100));
            b.append(" in ").append(random.nextInt(2 * planks));
        }
        return bytes(b.toString());
    }

    private static byte[] bytes(String s) {
        return s.getBytes(java.nio.charset.StandardCharsets.ISO_8859_1);
    }

    private String randomHill(int lines) {
        StringBuilder b = new StringBuilder();
        int planks = model.count(0);
        if (random.nextInt(30) == 0) return random.nextBoolean() ? "" : "   ";
        for (int i = 0; i < lines; i++) {
            if (i > 0) b.append(blanks()).append(';').append(blanks());
            int h = Math.max(0, number(0, Math.max(0, 2 * planks - 1)));
            switch (random.nextInt(10)) {
                case 0 -> {
                    b.append("plank ").append(number(10, 400));
                    if (random.nextBoolean()) b.append(" age ").append(number(0, 99));
                    planks++;
                }
                case 1 -> b.append("purse ").append(h).append(' ').append(number(0, 999));
                case 2 -> b.append("guests ").append(h).append(' ').append(number(0, 9));
                case 3, 4 -> b.append("thing ").append(number(1, 60)).append(" worth ").append(number(0, 99)).append(" in ").append(h);
                case 5 -> b.append("snow").append(blanks()).append(number(0, 99));
                case 6 -> b.append("step ").append(number(1, 40));
                case 7 -> b.append("fall ").append(number(0, 100));
                case 8 -> b.append("thieves ").append(number(0, 100));
                default -> b.append("fee ").append(number(0, 99));
            }
        }
        return b.toString();
    }

    private String randomLaw() {
        if (random.nextInt(20) == 0) return random.nextBoolean() ? "" : " ";
        StringBuilder b = new StringBuilder(blanks());
        int lines = 1 + random.nextInt(random.nextInt(6) == 0 ? 14 : 5);
        for (int i = 0; i < lines; i++) {
            if (i > 0) b.append(blanks()).append(';').append(blanks());
            b.append(new String[] {"rent ", "lure ", "age "}[random.nextInt(3)]).append(blanks());
            b.append(random.nextInt(3) == 0 ? number(0, 60) : random.nextInt(6));
            if (random.nextInt(4) != 0) {
                b.append(" if ").append(blanks());
                any(b, random.nextInt(3) == 0 ? 7 : 2);
            }
        }
        return b.toString();
    }

    private void any(StringBuilder b, int deep) {
        all(b, deep);
        if (random.nextInt(3) == 0) {
            b.append(" or ");
            all(b, deep);
        }
    }

    private void all(StringBuilder b, int deep) {
        atom(b, deep);
        if (random.nextInt(3) == 0) {
            b.append(" and ");
            atom(b, deep);
        }
    }

    private void atom(StringBuilder b, int deep) {
        int r = random.nextInt(deep > 2 ? 12 : 7);
        if (deep > 0 && (r == 0 || r > 8)) {
            b.append("not ");
            atom(b, deep - 1);
        } else if (deep > 0 && (r == 1 || r > 6)) {
            b.append("(");
            any(b, deep - 1);
            b.append(")");
        } else if (r == 2) {
            b.append("up");
        } else if (r == 3) {
            b.append("level");
        } else {
            sum(b);
            b.append(random.nextBoolean() ? "<" : ">").append(blanks());
            sum(b);
        }
    }

    private void sum(StringBuilder b) {
        part(b);
        while (random.nextInt(5) == 0) {
            b.append("+");
            part(b);
        }
    }

    private void part(StringBuilder b) {
        String[] facts = {"house", "height", "load", "guests", "aged", "week"};
        int r = random.nextInt(10);
        b.append(r < 6 ? facts[r] : String.valueOf(random.nextInt(r == 6 ? 1000 : r == 7 ? 100 : 11)));
    }

    private byte[] mutated(String text) {
        byte[] b = bytes(text.length() > 400 ? text.substring(0, 400) : text);
        if (b.length > 0 && random.nextInt(8) == 0) {
            String signs = "az09 ;()<>+k";
            int at = random.nextInt(b.length);
            switch (random.nextInt(4)) {
                case 0 -> b[at] = (byte) random.nextInt(256);
                case 1 -> b[at] = (byte) signs.charAt(random.nextInt(signs.length()));
                case 2 -> b = Arrays.copyOf(b, at);
                default -> {
                    byte[] c = Arrays.copyOf(b, b.length - 1);
                    System.arraycopy(b, at + 1, c, at, b.length - 1 - at);
                    b = c;
                }
            }
        }
        return b;
    }

    private byte[] randomTold() {
        int n = random.nextInt(random.nextInt(10) == 0 ? 22 : 3);
        byte[] b = new byte[2 * n + (random.nextInt(25) == 0 ? 1 : 0)];
        int p = model.count(0) == 0 ? -1 : random.nextInt(model.count(0));
        for (int i = 0; i < b.length; i++) {
            boolean likely = i % 2 == 1 && p >= 0 && random.nextInt(3) != 0;
            int height = likely ? Math.max(0, model.plank(p, 4) - random.nextInt(3)) : random.nextInt(11);
            b[i] = (byte) (i % 2 == 1 ? height : random.nextInt(random.nextBoolean() ? 3 : 21));
            if (random.nextInt(60) == 0) b[i] = (byte) random.nextInt(256);
        }
        return b;
    }
}
