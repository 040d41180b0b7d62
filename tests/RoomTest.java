import java.io.IOException;
import java.lang.reflect.Array;
import java.lang.reflect.Field;
import java.lang.reflect.Modifier;
import java.nio.file.Files;
import java.nio.file.Path;
import java.util.ArrayDeque;
import java.util.Collections;
import java.util.IdentityHashMap;
import java.util.Set;
import java.util.regex.Matcher;
import java.util.regex.Pattern;

/**
 * All calls of a run live in one room: an object and what it keeps stays small, and outside of constructors only
 * reading a text makes something.
 */
public final class RoomTest extends Asking {
    // Twenty objects of this size still leave most of the room of 600,000 objects and 7.3 million elements.
    private static final long MOST_OBJECTS = 150;
    private static final long MOST_ELEMENTS = 40000;

    public static void main(String[] args) throws IOException, IllegalAccessException {
        sentence("1", "a new object takes little room");
        small("a new object", new SnorePlay());
        sentence("3", "a house takes little room, its laws as long as a text can be, too");
        SnorePlay x = of(longText());
        small("a house of 900 bytes", x);
        sentence("all", "what calls keep takes little room");
        askAll(x);
        small("an object that was used", x);
        sentence("all", "only reading a text makes objects");
        makesNothing(Files.readString(Path.of(args.length > 0 ? args[0] : "src/main/java/SnorePlay.java")));
        finish();
    }

    private static String longText() {
        StringBuilder t = new StringBuilder("house beds 6 sounds 6 acts 4;sleeper bed 0 dream 1;sleeper bed 3 dream 2;"
            + "sleeper bed 5 dream 3;turns 5;answers:20-far;says:1");
        while (t.length() < 896) {
            t.append("+1");
        }
        return t.append(';').toString();
    }

    private static void askAll(SnorePlay x) {
        lay(x, 0, 1, -1);
        for (int i = 0; i < 12; i++) {
            x.image(i % 2);
            x.hush(i % 10);
            x.dream(i % 3, i % 10);
            x.change(i % 3, (i + 1) % 3);
            x.beat(i % 4);
            x.goes(0);
            x.soonest(i % 2);
            x.keeping(i);
            x.rows(i % 3, 10);
            x.placing(0);
            x.fills(i % 3);
            x.heard(0);
            x.suspects(0, 1);
            x.attempt(0);
            x.best();
            x.mean(7, 0);
            x.night(i, 40);
            if (i % 3 == 2) {
                x.restore(i % 2);
            }
        }
    }

    private static void small(String what, SnorePlay x) throws IllegalAccessException {
        Set<Object> met = Collections.newSetFromMap(new IdentityHashMap<>());
        ArrayDeque<Object> left = new ArrayDeque<>();
        met.add(x);
        left.add(x);
        long elements = 0;
        while (!left.isEmpty()) {
            Object o = left.poll();
            elements += o.getClass().isArray() ? elementsOf(o, met, left) : fieldsOf(o, met, left);
        }
        due(what + " is of at most " + MOST_OBJECTS + " objects (" + met.size() + ")", met.size() <= MOST_OBJECTS ? 1 : 0, 1);
        due(what + " has at most " + MOST_ELEMENTS + " elements (" + elements + ")", elements <= MOST_ELEMENTS ? 1 : 0, 1);
    }

    private static int elementsOf(Object array, Set<Object> met, ArrayDeque<Object> left) {
        int size = Array.getLength(array);
        for (int i = 0; i < size && !array.getClass().getComponentType().isPrimitive(); i++) {
            meet(Array.get(array, i), met, left);
        }
        return size;
    }

    private static int fieldsOf(Object o, Set<Object> met, ArrayDeque<Object> left) throws IllegalAccessException {
        int fields = 0;
        for (Field f : o.getClass().getDeclaredFields()) {
            if (!Modifier.isStatic(f.getModifiers())) {
                fields++;
                f.setAccessible(true);
                if (!f.getType().isPrimitive()) {
                    meet(f.get(o), met, left);
                }
            }
        }
        return fields;
    }

    private static void meet(Object o, Set<Object> met, ArrayDeque<Object> left) {
        if (o != null && met.add(o)) {
            left.add(o);
        }
    }

    /** Fields are made with their object, constructors make the rest; within a method only reading may make some. */
    private static void makesNothing(String source) {
        Pattern header = Pattern.compile("(\\s+)[\\w\\[\\] ]*?\\b(\\w+)\\([^;]*\\) \\{");
        Pattern making = Pattern.compile("\\bnew\\b|copyOf|clone\\(|toCharArray|substring");
        String method = "";
        String end = "";
        for (String line : source.split("\n")) {
            Matcher m = header.matcher(line);
            if (method.isEmpty() && m.matches()) {
                method = m.group(2);
                end = m.group(1) + "}";
            } else if (line.equals(end)) {
                method = "";
            }
            boolean bound = method.isEmpty() || Character.isUpperCase(method.charAt(0));
            if (!bound && making.matcher(line.replaceAll("//.*", "")).find()) {
                boolean reading = method.equals("readText") || method.equals("readLaw");
                due(method + " makes something: " + line.strip(), reading ? 1 : 0, 1);
            }
        }
    }
}
