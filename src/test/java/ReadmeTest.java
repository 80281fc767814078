import java.io.IOException;
import java.lang.reflect.InvocationTargetException;
import java.net.URL;
import java.net.URLClassLoader;
import java.nio.file.Files;
import java.nio.file.Path;
import java.util.ArrayList;
import java.util.List;
import java.util.TreeSet;
import java.util.regex.Matcher;
import java.util.regex.Pattern;
import java.util.stream.Stream;
import javax.tools.JavaCompiler;
import javax.tools.ToolProvider;

/**
 * README.md as a program: its blocks of Java, one behind the other, are compiled and run, and each
 * call is compared with the answer that stands behind its arrow.
 */
public final class ReadmeTest {
    private static final Pattern BLOCK = Pattern.compile("(?ms)^```(\\w+)\n(.*?)^```$");
    private static final Pattern CALL = Pattern.compile("^((?:x\\.)?\\w+\\(.*\\));\\s*// -> ([^:]+)(?::.*)?$");
    private static final String[] FACE = {"feed", "read", "place", "shift", "person", "past", "wish", "at", "put",
        "change", "undo", "best", "descend", "broken", "score", "minutes", "law", "state", "alike", "words", "word",
        "count"};

    public static void main(String[] args) throws Exception {
        String readme = Files.readString(Path.of("README.md"));
        String program = program(readme);
        runs(program);
        showsTheFace(program);
        namesEveryTest(readme);
        saysHowTestsAreRun(readme);
        Check.end();
    }

    private static List<String> blocks(String readme, String language) {
        List<String> found = new ArrayList<>();
        Matcher m = BLOCK.matcher(readme);
        while (m.find()) {
            if (m.group(1).equals(language)) {
                found.add(m.group(2));
            }
        }
        return found;
    }

    /** Methods stand beside main, all other lines in it; a call without its answer is a fault of README.md. */
    private static String program(String readme) {
        StringBuilder methods = new StringBuilder();
        StringBuilder main = new StringBuilder();
        for (String block : blocks(readme, "java")) {
            if (block.startsWith("static ")) {
                methods.append(block);
                continue;
            }
            for (String line : block.split("\n")) {
                Matcher m = CALL.matcher(line);
                boolean makes = line.startsWith("RosterRules x = new ");
                Check.holds("README.md tells the answer: " + line, makes || m.matches());
                if (makes) {
                    main.append(line).append('\n');
                } else if (m.matches()) {
                    main.append("Check.due(\"README.md: ").append(m.group(1).replace("\\", "\\\\").replace("\"", "\\\""))
                        .append("\", ").append(m.group(1)).append(", ").append(m.group(2)).append(");\n");
                }
            }
        }
        return "public final class ReadmeCalls {\n" + methods + "public static void main(String[] args) {\n" + main + "}\n}\n";
    }

    private static void runs(String program) throws Exception {
        Path directory = Files.createTempDirectory("readme");
        try {
            Path source = directory.resolve("ReadmeCalls.java");
            Files.writeString(source, program);
            JavaCompiler compiler = ToolProvider.getSystemJavaCompiler();
            Check.holds("a compiler is there", compiler != null);
            String classes = System.getProperty("java.class.path");
            int answer = compiler == null ? 1 : compiler.run(null, null, null, "-Xlint:all", "-Werror", "-cp", classes,
                "-d", directory.toString(), source.toString());
            Check.due("the compiler, of README.md's calls", answer, 0);
            if (answer == 0) {
                call(directory);
            }
        } finally {
            remove(directory);
        }
    }

    private static void call(Path directory) throws Exception {
        URL[] places = {directory.toUri().toURL()};
        try (URLClassLoader loader = new URLClassLoader(places, ReadmeTest.class.getClassLoader())) {
            Object none = new String[0];
            loader.loadClass("ReadmeCalls").getMethod("main", String[].class).invoke(null, none);
        } catch (InvocationTargetException thrown) {
            Check.holds("README.md's calls end, but " + thrown.getCause() + " was thrown", false);
        }
    }

    private static void remove(Path directory) throws IOException {
        try (Stream<Path> files = Files.list(directory)) {
            for (Path file : files.toList()) {
                Files.delete(file);
            }
        }
        Files.delete(directory);
    }

    private static void showsTheFace(String program) {
        for (String name : FACE) {
            Check.holds("README.md shows " + name, program.contains("x." + name + "("));
        }
    }

    private static TreeSet<String> testsIn(String directory, String ending) throws IOException {
        TreeSet<String> names = new TreeSet<>();
        try (Stream<Path> files = Files.list(Path.of(directory))) {
            for (Path file : files.toList()) {
                String name = file.getFileName().toString();
                if (name.endsWith(ending)) {
                    names.add(name.substring(0, name.length() - ".java".length()));
                }
            }
        }
        return names;
    }

    private static void namesEveryTest(String readme) throws IOException {
        TreeSet<String> told = new TreeSet<>();
        Matcher m = Pattern.compile("`(\\w+Test)`").matcher(readme);
        while (m.find()) {
            told.add(m.group(1));
        }
        TreeSet<String> here = testsIn("src/test/java", "Test.java");
        Check.holds("README.md names the tests " + here + ", but " + told, told.equals(here));
    }

    private static void saysHowTestsAreRun(String readme) throws IOException {
        TreeSet<String> tests = testsIn("src/test/java", "Test.java");
        tests.addAll(testsIn("../shared/tests", ".java"));
        boolean all = false;
        boolean one = false;
        for (String block : blocks(readme, "sh")) {
            for (String line : block.split("\n")) {
                String[] words = line.split(" ");
                all |= line.equals(".ci/run");
                one |= words.length == 2 && words[0].equals(".ci/run");
                for (int i = 1; words[0].equals(".ci/run") && i < words.length; i++) {
                    Check.holds("there is a test " + words[i], tests.contains(words[i]));
                }
            }
        }
        Check.holds("README.md says how all tests are run", all);
        Check.holds("README.md says how one test is run alone", one);
    }
}
