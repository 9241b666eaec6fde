import java.io.IOException;
import java.io.UncheckedIOException;
import java.nio.charset.StandardCharsets;
import java.nio.file.Files;
import java.nio.file.Path;
import java.util.NoSuchElementException;

/** What tests by hand share: asking, counting what is wrong, and putting texts onto the TAPE. */
abstract class Checks {
    static final int NONE = SeeSawHill.NONE;
    /** Numbers that no PLANK, HOUSE or THING has. */
    static final int[] NEVER = {-1, 10, 11, 31, 32, Integer.MAX_VALUE, Integer.MIN_VALUE};
    private static int asked = 0;
    private static int wrong = 0;
    private static String about = "";
    private static String document;
    private static final boolean[] promises = new boolean[48];

    interface Call {
        Object run();
    }

    static void finish(String name) {
        System.out.println(name + ": " + asked + " asked, " + wrong + " wrong");
        if (wrong != 0) System.exit(1);
    }

    // ---- Asking

    static void due(String what, Object got, Object want) {
        asked++;
        if (!want.equals(got)) {
            wrong++;
            System.out.println(about + what + " answered " + got + ", due is " + want);
        }
    }

    static void fails(String what, Class<?> want, Call call) {
        Object got;
        try {
            got = call.run();
        } catch (RuntimeException e) {
            got = e.getClass();
        }
        due(what, got, want);
    }

    static void outOfBounds(String what, Call call) {
        fails(what, IndexOutOfBoundsException.class, call);
    }

    static void illegal(String what, Call call) {
        fails(what, IllegalArgumentException.class, call);
    }

    static void noSuch(String what, Call call) {
        fails(what, NoSuchElementException.class, call);
    }

    static void cannotBe(String what, Call call) {
        fails(what, IllegalStateException.class, call);
    }

    static void tooMany(String what, Call call) {
        fails(what, UnsupportedOperationException.class, call);
    }

    // ---- The TAPE and texts

    static void put(SeeSawHill x, byte[] bytes) {
        for (int at = 0; at < bytes.length; at += 20) {
            int[] n = new int[5];
            for (int i = 0; i < 20; i++) {
                n[i / 4] = n[i / 4] << 8 | (at + i < bytes.length ? bytes[at + i] & 255 : 0);
            }
            x.feed(n[0], n[1], n[2], n[3], n[4]);
        }
        x.end(bytes.length);
    }

    static void put(SeeSawHill x, String text) {
        x.end(0);
        put(x, text.getBytes(StandardCharsets.ISO_8859_1));
    }

    /** How many bytes the TAPE has (it must have at most 380); it is as before then. */
    static int onTape(SeeSawHill x) {
        int has = x.feed(0, 0, 0, 0, 0) - 20;
        x.end(has);
        return has;
    }

    static int hill(SeeSawHill x, String text) {
        put(x, text);
        return x.hill();
    }

    static int law(SeeSawHill x, String text) {
        put(x, text);
        return x.law();
    }

    static SeeSawHill of(String text) {
        SeeSawHill x = new SeeSawHill();
        hill(x, text);
        return x;
    }

    static SeeSawHill of(String text, String law) {
        SeeSawHill x = of(text);
        law(x, law);
        return x;
    }

    static String repeat(String text, int n) {
        return text.repeat(n);
    }

    private static byte[] told(int... bytes) {
        byte[] all = new byte[bytes.length];
        for (int i = 0; i < bytes.length; i++) all[i] = (byte) bytes[i];
        return all;
    }

    static int has(SeeSawHill x, int plank, boolean sure, int... bytes) {
        x.end(0);
        put(x, told(bytes));
        return x.has(plank, sure);
    }

    static int ask(SeeSawHill x, int plank, int... bytes) {
        x.end(0);
        put(x, told(bytes));
        return x.ask(plank);
    }

    // ---- Wrong texts and refused calls

    static void wrongHill(String before, String text, int at) {
        SeeSawHill x = of(before);
        String was = all(x);
        illegal("hill '" + text + "'", () -> hill(x, text));
        due("fault of hill '" + text + "'", x.fault(), at);
        due("all behind '" + text + "'", all(x), was);
        due("tape behind '" + text + "'", onTape(x), 0);
    }

    static void wrongLaw(String text, int at) {
        SeeSawHill x = of("plank 99;thing 7 worth 3 in 1", "rent 1;lure 2;age 3");
        String was = all(x);
        illegal("law '" + text + "'", () -> law(x, text));
        due("fault of law '" + text + "'", x.fault(), at);
        due("all behind '" + text + "'", all(x), was);
        due("tape behind '" + text + "'", onTape(x), 0);
    }

    /** All that can be asked of an object without changing it, but for its TAPE, fault() and THE IMAGE. */
    static String all(SeeSawHill x) {
        StringBuilder b = new StringBuilder();
        for (int what = 0; what < 15; what++) b.append(x.count(what)).append(' ');
        for (int plank = 0; plank < x.count(0); plank++) {
            for (int what = 0; what < 7; what++) b.append(x.plank(plank, what)).append(' ');
            for (int house = 2 * plank; house < 2 * plank + 2; house++) {
                for (int what = 0; what < 9; what++) b.append(x.house(house, what)).append(' ');
            }
        }
        for (int thing = 0; thing < x.count(1); thing++) {
            for (int what = 0; what < 3; what++) b.append(x.thing(thing, what)).append(' ');
        }
        for (int ago = 0; ago < Math.min(10, x.count(13)); ago++) {
            for (int what = 0; what < 5; what++) b.append(x.log(ago, what)).append(' ');
        }
        int seed = x.seed(0);
        x.seed(seed);
        return b.append(seed).toString();
    }

    /** A call that throws: nothing but the TAPE has changed, which keeps so many bytes. */
    static void refused(String what, SeeSawHill x, Class<?> want, int left, Call call) {
        String was = all(x);
        int fault = x.fault();
        fails(what, want, call);
        due("all behind " + what, all(x), was);
        due("fault behind " + what, x.fault(), fault);
        due("tape behind " + what, onTape(x), left);
    }

    // ---- Draws

    /** DRAW by the document: bits 16 to 30 of a seed that goes round. */
    static int[] draws(int seed, int n) {
        int[] all = new int[n];
        for (int i = 0; i < n; i++) {
            seed = 1103515245 * seed + 12345;
            all[i] = seed >>> 16 & 0x7fff;
        }
        return all;
    }

    /** A SEED whose DRAW of that number (0 the first) is so much modulo 100. */
    static int seedOf(int number, int modulo) {
        for (int seed = 1; seed < 100000; seed++) {
            if (draws(seed, number + 1)[number] % 100 == modulo) return seed;
        }
        throw new IllegalStateException("no such seed");
    }

    // ---- The document's sentences

    /** The tests behind this are of these words, which must stand in the document. */
    static void told(String words) {
        about = "[" + words + "] ";
        due("the document has these words", document().contains(words), true);
    }

    /** The tests behind this are of these words of a promise, which must stand in its section. */
    static void promised(int promise, String words) {
        about = "[Promise " + promise + ": " + words + "] ";
        String all = document();
        int from = all.indexOf("## Promise " + promise + ":");
        int to = all.indexOf("## ", from + 3);
        due("the promise has these words", from >= 0 && to > from && all.substring(from, to).contains(words), true);
        if (promise >= 0 && promise < promises.length) promises[promise] = true;
    }

    /** Each promise of the document was asked for by promised(..). */
    static void allPromised() {
        about = "";
        for (int promise = 1; promise < promises.length; promise++) due("promise " + promise + " has tests", promises[promise], true);
        due("there is no promise behind", document().contains("## Promise " + promises.length + ":"), false);
    }

    private static String document() {
        if (document == null) {
            try {
                document = Files.readString(Path.of("../shared/DOC.md"), StandardCharsets.UTF_8).replaceAll("\\s+", " ");
            } catch (IOException e) {
                throw new UncheckedIOException(e);
            }
        }
        return document;
    }
}
