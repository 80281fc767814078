import java.io.IOException;
import java.io.InputStream;
import java.lang.reflect.Field;
import java.lang.reflect.Method;
import java.lang.reflect.Modifier;
import java.nio.charset.StandardCharsets;
import java.nio.file.Files;
import java.nio.file.Path;
import java.util.ArrayList;
import java.util.Arrays;
import java.util.List;
import java.util.Map;
import java.util.Set;
import java.util.TreeMap;
import java.util.TreeSet;
import java.util.regex.Matcher;
import java.util.regex.Pattern;

/** What of LANGUAGE.md, and of the document's face, can be seen in the source and in the class. */
public final class LanguageTest {
    private static final String[] FACE = {"feed(int,long)int", "read()int", "place()int", "shift(int,int,int,int)int",
        "person(int,int)int", "past(int,int,int)int", "wish(int,int,int,int)int", "at(int,int)int", "put(int,int,int)long",
        "change(int,int,int)long", "undo()int", "best(int,int)int", "descend(int)int", "broken(int,int)long",
        "score()long", "minutes(int,int,int)long", "law(int,int)int", "state(int,int,int)int", "alike(int,int)int",
        "words(int,int)long", "word(int,int)int", "count(int)int"};
    private static final String[] FORBIDDEN = {"throw", "throws", "try", "catch", "synchronized", "assert", "import",
        "package", "System", "Thread", "Random", "protected", "record", "native", "transient", "volatile", "goto",
        "Object", "Arrays", "hashCode", "toString", "equals", "null"};
    private static final Set<String> LIBRARY_CLASSES = Set.of("java/lang/Object", "java/lang/Math", "java/lang/String");

    public static void main(String[] args) throws Exception {
        face();
        nested();
        for (Class<?> c : allClasses()) {
            constants(c);
            library(c);
        }
        String text = Files.readString(Path.of("src/main/java/RosterRules.java"));
        source(text);
        callsGoEightDeep(text);
        Check.end();
    }

    private static void face() {
        TreeSet<String> publicOnes = new TreeSet<>();
        TreeSet<String> names = new TreeSet<>();
        for (Method m : RosterRules.class.getDeclaredMethods()) {
            if (Modifier.isPublic(m.getModifiers())) {
                publicOnes.add(m.getName() + Arrays.toString(m.getParameterTypes()).replace('[', '(').replace(']', ')')
                    .replace(" ", "") + m.getReturnType());
                names.add(m.getName());
            } else {
                Check.holds(m + " is private", Modifier.isPrivate(m.getModifiers()));
            }
        }
        Check.holds("the face is " + publicOnes, publicOnes.equals(new TreeSet<>(Arrays.asList(FACE))));
        for (Class<?> c : RosterRules.class.getDeclaredClasses()) {
            for (Method m : c.getDeclaredMethods()) {
                Check.holds(m + " has a name of its own", !names.contains(m.getName()));
            }
        }
        Check.due("public fields", RosterRules.class.getFields().length, 3);
        Check.due("constructors", RosterRules.class.getDeclaredConstructors().length, 1);
        Check.holds("final", Modifier.isFinal(RosterRules.class.getModifiers()));
    }

    private static void nested() {
        Check.holds("at most twelve classes", RosterRules.class.getDeclaredClasses().length <= 11);
        for (Class<?> c : RosterRules.class.getDeclaredClasses()) {
            Check.holds(c + " is private and static", Modifier.isPrivate(c.getModifiers()) && Modifier.isStatic(c.getModifiers()));
            long fields = Arrays.stream(c.getDeclaredFields()).filter(f -> !Modifier.isStatic(f.getModifiers())).count();
            Check.holds(c + " has few fields", fields <= 20);
            for (Method m : c.getDeclaredMethods()) {
                Check.holds(m + " takes few parameters", m.getParameterCount() <= 7);
            }
        }
    }

    private static List<Class<?>> allClasses() {
        List<Class<?>> all = new ArrayList<>(Arrays.asList(RosterRules.class.getDeclaredClasses()));
        all.add(RosterRules.class);
        return all;
    }

    private static void constants(Class<?> c) {
        Set<Class<?>> fine = Set.of(int.class, long.class, boolean.class, char.class, String.class);
        for (Field f : c.getDeclaredFields()) {
            if (Modifier.isStatic(f.getModifiers())) {
                Check.holds(f + " is a constant", Modifier.isFinal(f.getModifiers()) && fine.contains(f.getType()));
            }
        }
    }

    /** By the names in the class file; a lambda, or texts joined by +, would need a bootstrap method there. */
    private static void library(Class<?> c) throws IOException {
        try (InputStream in = c.getResourceAsStream("/" + c.getName() + ".class")) {
            Check.holds("there is a file of " + c, in != null);
            String bytes = in == null ? "" : new String(in.readAllBytes(), StandardCharsets.ISO_8859_1);
            Check.holds(c + " needs no bootstrap", !bytes.contains("BootstrapMethods"));
            Matcher names = Pattern.compile("javax?/[\\w/]+").matcher(bytes);
            while (names.find()) {
                Check.holds(c + " names " + names.group(), LIBRARY_CLASSES.contains(names.group()));
            }
        }
    }

    private static void source(String text) {
        String code = text.replaceAll("(?s)/\\*.*?\\*/", "").replaceAll("//[^\n]*", "")
            .replaceAll("'(\\\\.|[^'])'", "0").replaceAll("\"[^\"\n]*\"", "0");
        for (String word : FORBIDDEN) {
            Check.holds("no " + word, !Pattern.compile("\\b" + word + "\\b").matcher(code).find());
        }
        Check.holds("no lambda, no method reference", !code.contains("->") && !code.contains("::"));
        Matcher library = Pattern.compile("\\bMath\\.(\\w+)").matcher(code);
        while (library.find()) {
            Check.holds("Math." + library.group(1), library.group(1).equals("max") || library.group(1).equals("min"));
        }
        Check.holds("no class within a method", !Pattern.compile("new \\w+\\([^;]*\\)\\s*\\{").matcher(code).find());
        Check.holds("no endless loop", !code.contains("while (true)") && !code.contains("for (;"));
        Matcher statics = Pattern.compile("\\bstatic\\b(?! final)[^\n]*").matcher(code);
        while (statics.find()) {
            Check.holds("static state: " + statics.group(), statics.group().contains("("));
        }
        String[] lines = text.split("\n");
        int begin = 0;
        for (int i = 0; i < lines.length; i++) {
            Check.holds("short line " + (i + 1), lines[i].length() <= 120);
            if (lines[i].matches(" {4}( {4})?[A-Za-z].*\\) \\{")) {
                begin = i;
            }
            if (lines[i].matches(" {4}( {4})?\\}") && begin > 0) {
                Check.holds("short method at line " + (begin + 1), i - begin <= 60);
                begin = 0;
            }
        }
    }

    /** By the names of methods alone, so that it may see more calls than there are, but none fewer. */
    private static void callsGoEightDeep(String text) {
        Map<String, Set<String>> calls = new TreeMap<>();
        Matcher methods = Pattern.compile("(?ms)^( {4}| {8})(?:(?:public|private|static) )*[\\w\\[\\]]+ (\\w+)\\([^)]*\\) \\{$(.*?)^\\1\\}$")
            .matcher(text);
        while (methods.find()) {
            Set<String> called = calls.computeIfAbsent(methods.group(2), name -> new TreeSet<>());
            Matcher names = Pattern.compile("(?<!new )\\b(\\w+)\\(").matcher(methods.group(3));
            while (names.find()) {
                called.add(names.group(1));
            }
        }
        Check.holds("many methods are seen", calls.size() > 100);
        for (String name : calls.keySet()) {
            int depth = depth(calls, name, 1);
            Check.holds("calls below " + name + " go " + depth + " deep", depth <= 8);
        }
    }

    private static int depth(Map<String, Set<String>> calls, String name, int depth) {
        int deepest = depth;
        for (String called : calls.getOrDefault(name, Set.of())) {
            // what calls itself would go on for ever
            if (depth < 12 && (calls.containsKey(called) || called.equals("max") || called.equals("min"))) {
                deepest = Math.max(deepest, depth(calls, called, depth + 1));
            }
        }
        return deepest;
    }
}
