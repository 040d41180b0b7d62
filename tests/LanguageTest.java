import java.io.IOException;
import java.lang.reflect.Field;
import java.lang.reflect.Method;
import java.lang.reflect.Modifier;
import java.nio.file.Files;
import java.nio.file.Path;
import java.util.ArrayList;
import java.util.HashMap;
import java.util.List;
import java.util.Map;
import java.util.Set;
import java.util.TreeSet;
import java.util.regex.Matcher;
import java.util.regex.Pattern;

/** The rules of LANGUAGE.md that can be seen from the source or the compiled classes. */
public final class LanguageTest {
    static int wrong = 0;

    static void want(boolean so, String what) {
        if (!so) {
            wrong++;
            System.out.println(what);
        }
    }

    public static void main(String[] args) throws IOException {
        String source = Files.readString(Path.of(args.length > 0 ? args[0] : "src/main/java/SnorePlay.java"));
        want(source.chars().allMatch(c -> c == 10 || c >= 32 && c < 127), "signs that are not plain");
        String code = bare(source);
        for (String word : List.of("throw", "throws", "try", "catch", "finally", "synchronized", "assert", "package", "native",
            "volatile", "transient", "protected", "var", "yield", "goto")) {
            want(!Pattern.compile("\\b" + word + "\\b").matcher(code).find(), "the word " + word);
        }
        want(!code.contains("->") && !code.contains("::"), "a lambda or a method reference");
        want(!Pattern.compile("\\bstatic\\s*\\{").matcher(code).find(), "a static initialiser");
        Matcher imports = Pattern.compile("\\bimport\\s+([\\w.*]+);").matcher(code);
        while (imports.find()) {
            want(Set.of("java.util.Arrays", "java.util.ArrayList", "java.util.List").contains(imports.group(1)),
                "import " + imports.group(1));
        }
        library(code);
        faces();
        lengths(source);
        System.out.println(wrong == 0 ? "the language is kept to" : wrong + " things outside the language");
        if (wrong != 0) {
            System.exit(1);
        }
    }

    /** The source without comments and without what stands in texts. */
    static String bare(String source) {
        return source.replaceAll("(?s)/\\*.*?\\*/", " ").replaceAll("//[^\n]*", " ")
            .replaceAll("\"(\\\\.|[^\"\\\\])*\"", "\"\"").replaceAll("'(\\\\.|[^'\\\\])'", "' '");
    }

    static void library(String code) {
        Matcher uses = Pattern.compile("\\b(Math|Arrays|System|Integer|Long|String|Character|Objects|Thread|Runtime)\\.(\\w+)")
            .matcher(code);
        Set<String> allowed = Set.of("Math.abs", "Math.max", "Math.min", "Math.floorMod", "Math.floorDiv", "Arrays.fill",
            "Arrays.copyOf", "Arrays.copyOfRange", "System.arraycopy", "Integer.bitCount", "Long.bitCount");
        while (uses.find()) {
            want(allowed.contains(uses.group()), "the library's " + uses.group());
        }
        want(!Pattern.compile("Arrays\\.fill\\(\\s*is").matcher(code).find(), "Arrays.fill over truths");
    }

    static void faces() {
        List<Class<?>> all = new ArrayList<>(List.of(SnorePlay.class.getDeclaredClasses()));
        want(all.size() <= 11, "more than twelve classes");
        Set<String> face = new TreeSet<>();
        for (Method m : SnorePlay.class.getDeclaredMethods()) {
            want(Modifier.isPublic(m.getModifiers()) || Modifier.isPrivate(m.getModifiers()), "visible: " + m);
            if (Modifier.isPublic(m.getModifiers())) {
                face.add(m.getName());
            }
        }
        want(face.size() == 41, "the face has " + face.size() + " methods");
        for (Field f : SnorePlay.class.getDeclaredFields()) {
            want(Modifier.isPrivate(f.getModifiers()) || f.getName().equals("NONE"), "visible: " + f);
        }
        all.add(SnorePlay.class);
        for (Class<?> c : all) {
            want(Modifier.isFinal(c.getModifiers()), "not final: " + c);
            want(c == SnorePlay.class || Modifier.isStatic(c.getModifiers()), "not static: " + c);
            int fields = 0;
            for (Field f : c.getDeclaredFields()) {
                boolean constant = Modifier.isStatic(f.getModifiers());
                want(!constant || Modifier.isFinal(f.getModifiers()), "static, not final: " + f);
                fields += constant ? 0 : 1;
            }
            want(fields <= 20, c + " has " + fields + " fields");
            for (Method m : c.getDeclaredMethods()) {
                want(m.getParameterCount() <= 7, "too many parameters: " + m);
                want(c == SnorePlay.class && Modifier.isPublic(m.getModifiers()) || !face.contains(m.getName()),
                    "bears a name of the face: " + m);
            }
        }
    }

    static void lengths(String source) {
        String[] lines = source.split("\n");
        Map<Integer, Integer> opened = new HashMap<>();
        for (int i = 0; i < lines.length; i++) {
            want(lines[i].length() <= 120, "a line of more than 120 signs: " + (i + 1));
            int indent = lines[i].length() - lines[i].stripLeading().length();
            if (lines[i].matches("\\s+[\\w\\[\\] ]+\\([^;]*\\) \\{") && (indent == 4 || indent == 8)) {
                opened.put(indent, i);
            }
            if (lines[i].strip().equals("}") && opened.containsKey(indent)) {
                int from = opened.remove(indent);
                want(i - from <= 60, "a method of more than 60 lines at " + (from + 1));
            }
        }
    }
}
