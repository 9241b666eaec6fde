import java.io.IOException;
import java.lang.reflect.Constructor;
import java.lang.reflect.Field;
import java.lang.reflect.Method;
import java.lang.reflect.Modifier;
import java.nio.charset.StandardCharsets;
import java.nio.file.Files;
import java.nio.file.Path;
import java.util.ArrayList;
import java.util.List;
import java.util.Set;
import java.util.TreeSet;
import java.util.regex.Matcher;
import java.util.regex.Pattern;

/** What can be seen of ../shared/LANGUAGE.md from outside, and whether the face is the document's. */
public final class LanguageTest {
    private static final Path SOURCE = Path.of("src/main/java/SeeSawHill.java");
    private static final Path DOCUMENT = Path.of("../shared/DOC.md");
    private static final String[] NOT_ALLOWED = {
        "->", "::", "finally", "synchronized", "assert ", "catch", "try {", "Exact(", "@", "instanceof",
        "System.out", "System.nano", "System.current", "Random", "Thread", "hashCode", "getMessage", "\" +", "+ \"",
    };
    private static int wrong = 0;

    public static void main(String[] args) throws IOException {
        String source = Files.readString(SOURCE, StandardCharsets.ISO_8859_1);
        words(source);
        face(source);
        members();
        sizes(source.split("\n"));
        System.out.println("LanguageTest: " + wrong + " wrong");
        if (wrong != 0) System.exit(1);
    }

    private static void say(String what) {
        wrong++;
        System.out.println(what);
    }

    private static void words(String source) {
        String code = source.replaceAll("(?s)/\\*.*?\\*/", "").replaceAll("//[^\n]*", "");
        for (String word : NOT_ALLOWED) if (code.contains(word)) say("has " + word);
        Matcher imports = Pattern.compile("(?m)^import (.*);$").matcher(source);
        while (imports.find()) {
            if (!imports.group(1).equals("java.util.NoSuchElementException")) say("imports " + imports.group(1));
        }
        for (int i = 0; i < source.length(); i++) {
            char c = source.charAt(i);
            if (c != '\n' && (c < 32 || c > 126)) say("sign " + (int) c + " at " + i);
        }
    }

    private static void face(String source) throws IOException {
        int lines = 0;
        for (String line : Files.readAllLines(DOCUMENT, StandardCharsets.UTF_8)) {
            if (!line.startsWith("    public ")) continue;
            lines++;
            String due = line.contains("(") ? line.substring(0, line.length() - 1) + " {\n" : line + "\n";
            if (!source.contains(due)) say("the face has not " + line.trim());
        }
        if (lines < 40) say("the document's face was not found");
    }

    private static void members() {
        Set<String> names = new TreeSet<>();
        for (Method m : SeeSawHill.class.getDeclaredMethods()) {
            if (Modifier.isPublic(m.getModifiers())) names.add(m.getName());
            else if (!Modifier.isPrivate(m.getModifiers())) say("not private: " + m);
        }
        for (Field f : SeeSawHill.class.getDeclaredFields()) {
            boolean told = f.getName().equals("NONE");
            if (!told && !Modifier.isPrivate(f.getModifiers())) say("not private: " + f);
        }
        for (Constructor<?> c : SeeSawHill.class.getDeclaredConstructors()) {
            if (!Modifier.isPublic(c.getModifiers())) say("not public: " + c);
        }
        if (names.size() != 46) say("public methods: " + names.size());
        List<Class<?>> all = new ArrayList<>(List.of(SeeSawHill.class.getDeclaredClasses()));
        if (all.size() > 11) say("classes: " + (all.size() + 1));
        for (Class<?> c : all) {
            if (!Modifier.isStatic(c.getModifiers()) || Modifier.isPublic(c.getModifiers())) say("class " + c);
            for (Method m : c.getDeclaredMethods()) if (names.contains(m.getName())) say("a name of the face: " + m);
        }
        all.add(SeeSawHill.class);
        for (Class<?> c : all) {
            int fields = 0;
            for (Field f : c.getDeclaredFields()) {
                if (!Modifier.isStatic(f.getModifiers())) fields++;
                else if (!Modifier.isFinal(f.getModifiers())) say("static and not final: " + f);
            }
            if (fields > 20) say(c + " has " + fields + " fields");
            for (Method m : c.getDeclaredMethods()) if (m.getParameterCount() > 7) say("too many parameters: " + m);
        }
    }

    /** A method begins at a line with ") {" or "throws .. {" and ends at the } of its own margin. */
    private static void sizes(String[] lines) {
        Pattern begin = Pattern.compile("^( {4}| {8})\\S.*\\).* \\{$");
        for (int i = 0; i < lines.length; i++) {
            Matcher m = begin.matcher(lines[i]);
            if (!m.matches() || lines[i].contains(" class ")) continue;
            int to = i;
            while (to < lines.length && !lines[to].equals(m.group(1) + "}")) to++;
            if (to - i + 1 > 60) say("long: " + (to - i + 1) + " lines from " + (i + 1));
            if (lines[i].length() > 140) say("wide: line " + (i + 1));
        }
    }
}
