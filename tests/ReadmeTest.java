import java.io.IOException;
import java.lang.reflect.InvocationTargetException;
import java.net.URL;
import java.net.URLClassLoader;
import java.nio.file.Files;
import java.nio.file.Path;
import java.util.ArrayList;
import java.util.List;
import java.util.TreeSet;
import java.util.regex.Matcher;
import java.util.regex.Pattern;
import java.util.stream.Stream;
import javax.tools.ToolProvider;

/** What README.md says is so: its code is compiled and run with the answers told there, its list of tests is whole. */
public final class ReadmeTest {
    private static final Pattern CALL = Pattern.compile("(play\\.\\w+\\(.*\\));\\s*// (-?\\d+): .*");
    private static int wrong = 0;
    private static int asked = 0;

    public static void main(String[] args) throws IOException, ReflectiveOperationException {
        String readme = Files.readString(Path.of("README.md"));
        List<String> code = blocks(readme);
        want(code.size() == 2, "README.md has " + code.size() + " pieces of Java, not a method and its use");
        if (wrong == 0) {
            run(program(code.get(0), code.get(1)));
            want(asked > 20, "README.md tells no answers");
        }
        tests(readme);
        System.out.println(wrong == 0 ? "README.md says what is so" : wrong + " things in README.md are not so");
        if (wrong != 0) {
            System.exit(1);
        }
    }

    private static void want(boolean so, String what) {
        if (!so) {
            wrong++;
            System.out.println(what);
        }
    }

    /** The compiled code of README.md calls it, from another loader of classes. */
    public static void due(String call, long got, long told) {
        asked++;
        want(got == told, call + " answered " + got + ", README.md tells " + told);
    }

    private static List<String> blocks(String readme) {
        List<String> found = new ArrayList<>();
        Matcher m = Pattern.compile("(?s)```java\n(.*?)```").matcher(readme);
        while (m.find()) {
            found.add(m.group(1));
        }
        return found;
    }

    private static String program(String method, String use) {
        StringBuilder t = new StringBuilder("public final class Example {\n" + method + "public static void use() {\n");
        for (String line : use.split("\n")) {
            Matcher m = CALL.matcher(line);
            boolean call = m.matches();
            want(call || !line.startsWith("play."), "no answer is told: " + line);
            t.append(call ? "ReadmeTest.due(\"" + m.group(1) + "\", " + m.group(1) + ", " + m.group(2) + "L);" : line).append("\n");
        }
        return t.append("}\n}\n").toString();
    }

    private static void run(String program) throws IOException, ReflectiveOperationException {
        Path dir = Files.createTempDirectory("readme");
        Path file = dir.resolve("Example.java");
        Files.writeString(file, program);
        int refused = ToolProvider.getSystemJavaCompiler().run(null, null, null, "-d", dir.toString(), "-cp",
            System.getProperty("java.class.path"), file.toString());
        want(refused == 0, "the code of README.md can't be compiled");
        if (refused == 0) {
            URL[] there = {dir.toUri().toURL()};
            try (URLClassLoader loader = new URLClassLoader(there, ReadmeTest.class.getClassLoader())) {
                loader.loadClass("Example").getMethod("use").invoke(null);
            } catch (InvocationTargetException e) {
                want(false, "the code of README.md threw " + e.getCause());
            }
        }
        Files.deleteIfExists(dir.resolve("Example.class"));
        Files.delete(file);
        Files.delete(dir);
    }

    private static void tests(String readme) throws IOException {
        TreeSet<String> named = new TreeSet<>();
        Matcher m = Pattern.compile("`tests/([\\w/]+\\.java)`").matcher(readme);
        while (m.find()) {
            named.add(m.group(1));
        }
        TreeSet<String> there = new TreeSet<>();
        try (Stream<Path> files = Files.walk(Path.of("tests"))) {
            files.filter(f -> f.toString().endsWith(".java"))
                .forEach(f -> there.add(Path.of("tests").relativize(f).toString()));
        }
        want(named.equals(there), "README.md names " + named + ", there are " + there);
    }
}
