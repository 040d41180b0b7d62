import java.lang.reflect.InvocationTargetException;
import java.lang.reflect.Method;
import java.lang.reflect.Modifier;
import java.util.ArrayList;
import java.util.Comparator;
import java.util.List;
import java.util.Random;

/**
 * Wild arguments for every call of the face: none may throw, the same calls give the same answers on another
 * object, and a refused call changes nothing that can be counted.
 */
public final class WildTest {
    static int wrong = 0;
    static final int[] WILD = {-1, -2, -3, -99, 7, 8, 9, 10, 11, 19, 20, 40, 41, 99, 100, 101, 110, 199, 200, 299, 300, 900, 901,
        99999, 100000, 1 << 30, Integer.MAX_VALUE, Integer.MIN_VALUE};
    static final String[] TEXTS = {
        "house beds 6 sounds 6 acts 4;sleeper bed 5 dream 1;sleeper bed 4 dream 2;sleeper bed 3 dream 3;sleeper bed 2 dream 4;"
            + "sleeper bed 1 dream 5;sleeper bed 0 dream 6;turns 3;hush 2;answers:12-far*hush+who-last;says:sound*5+dream+who-act;",
        "house beds 6 sounds 5 acts 3;sleeper bed 0 dream 9;sleeper bed 5 dream 8;sleeper bed 2 dream 0;opens 2 sound 4;"
            + "answers:if far > 3 and not hush = 4 then 0-1 else dream + far end;says:0-who*dream-hush;",
        "house beds 1 sounds 1 acts 1;sleeper bed 0 dream 0;",
        "house beds 6 sounds 6 acts 4;",
        "house beds 2 sounds 2 acts 1;sleeper bed 1 dream 0;sleeper bed 0 dream 0;turns 1;says:0;"};

    public static void main(String[] args) throws IllegalAccessException {
        List<Method> face = new ArrayList<>();
        for (Method m : SnorePlay.class.getDeclaredMethods()) {
            if (Modifier.isPublic(m.getModifiers())) {
                face.add(m);
            }
        }
        face.sort(Comparator.comparing(Method::getName));
        long calls = 0;
        for (int seed = 0; seed < 600 && wrong < 20; seed++) {
            calls += run(face, new Random(seed));
        }
        System.out.println(wrong == 0 ? calls + " wild calls went well" : wrong + " wild calls went wrong");
        if (wrong != 0) {
            System.exit(1);
        }
    }

    static int wild(Random r) {
        int kind = r.nextInt(12);
        return kind == 0 ? r.nextInt() : kind < 3 ? WILD[r.nextInt(WILD.length)] : r.nextInt(kind < 8 ? 3 : 7);
    }

    static int run(List<Method> face, Random r) throws IllegalAccessException {
        SnorePlay x = new SnorePlay();
        SnorePlay twin = new SnorePlay();
        int done = 0;
        String text = TEXTS[r.nextInt(TEXTS.length)];
        tell(x, text);
        tell(twin, text);
        while (done < 450 && wrong < 20) {
            Method m = face.get(r.nextInt(face.size()));
            Object[] in = new Object[m.getParameterCount()];
            for (int i = 0; i < in.length; i++) {
                if (m.getParameterTypes()[i] == long.class) {
                    in[i] = r.nextInt(9) == 0 ? r.nextLong() : (long) wild(r);
                } else {
                    in[i] = wild(r);
                }
            }
            if (m.getName().equals("house") && r.nextInt(10) > 0) {
                continue;
            }
            String before = r.nextInt(10) == 0 ? state(x) : null;
            long got = call(x, m, in);
            long again = call(twin, m, in);
            done++;
            check(got == again, m.getName() + " answers otherwise the second time");
            boolean refused = got <= -2 && !List.of("would", "write", "house").contains(m.getName());
            check(before == null || !refused || before.equals(state(x)), m.getName() + " was refused and changed something");
        }
        return done;
    }

    static void check(boolean so, String what) {
        if (!so) {
            wrong++;
            System.out.println(what);
        }
    }

    static long call(SnorePlay x, Method m, Object[] in) throws IllegalAccessException {
        try {
            return ((Number) m.invoke(x, in)).longValue();
        } catch (InvocationTargetException e) {
            wrong++;
            System.out.println(m.getName() + " " + java.util.Arrays.toString(in) + " threw " + e.getCause());
            return 0;
        }
    }

    static String state(SnorePlay x) {
        StringBuilder t = new StringBuilder();
        for (int what = 0; what < 13; what++) {
            t.append(x.count(what)).append(' ');
        }
        for (int s = 0; s < 6; s++) {
            t.append(x.sleeper(s, 0)).append(' ').append(x.sleeper(s, 1)).append(' ').append(x.would(s)).append(' ');
        }
        return t.append(x.fault(0)).append(' ').append(x.fault(1)).toString();
    }

    static void tell(SnorePlay x, String text) {
        int[] v = new int[(text.length() + 19) / 20 * 5];
        for (int i = 0; i < v.length * 4; i++) {
            v[i / 4] = v[i / 4] << 8 | (i < text.length() ? text.charAt(i) : 32);
        }
        for (int i = 0; i < v.length; i += 5) {
            x.feed(v[i], v[i + 1], v[i + 2], v[i + 3], v[i + 4]);
        }
        check(x.house(text.length()) > 0, "a text was refused");
    }
}
