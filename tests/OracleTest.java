import java.util.ArrayDeque;
import java.util.ArrayList;
import java.util.Arrays;
import java.util.HashMap;
import java.util.LinkedHashMap;
import java.util.List;
import java.util.Map;
import java.util.Random;
import java.util.TreeSet;

/**
 * Random runs of calls on SnorePlay and on a plain second telling of the document (Oracle), which walks
 * whole moments of the play by maps and recursion; every answer must be the same in both.
 */
public final class OracleTest {
    static int wrong = 0;
    static long calls = 0;

    public static void main(String[] args) {
        // A second argument asks for more runs than the usual ones.
        int runs = args.length > 1 ? Integer.parseInt(args[1]) : 400;
        int from = args.length > 2 ? Integer.parseInt(args[2]) : 0;
        for (int seed = from; seed < from + runs && wrong < 20; seed++) {
            new Run(seed).go();
        }
        for (int seed = from; seed < from + runs && wrong < 20; seed++) {
            faults(seed);
        }
        System.out.println(wrong == 0 ? calls + " answers alike" : wrong + " answers differ");
        if (wrong != 0) {
            System.exit(1);
        }
    }

    static void same(int seed, String call, long got, long want, String context) {
        calls++;
        if (got != want) {
            wrong++;
            System.out.println("seed " + seed + ": " + call + " answered " + got + ", due is " + want + "\n   " + context);
        }
    }

    static int[] fives(String text) {
        byte[] bytes = new byte[(text.length() + 19) / 20 * 20];
        Arrays.fill(bytes, (byte) 32);
        for (int i = 0; i < text.length(); i++) {
            bytes[i] = (byte) text.charAt(i);
        }
        int[] ints = new int[bytes.length / 4];
        for (int i = 0; i < ints.length; i++) {
            for (int j = 0; j < 4; j++) {
                ints[i] = ints[i] << 8 | bytes[4 * i + j] & 255;
            }
        }
        return ints;
    }

    static int tell(SnorePlay x, String text) {
        int[] v = fives(text);
        for (int i = 0; i < v.length; i += 5) {
            x.feed(v[i], v[i + 1], v[i + 2], v[i + 3], v[i + 4]);
        }
        return x.house(text.length());
    }

    /** Texts with something put in, left out or put elsewhere. */
    static void faults(int seed) {
        Random r = new Random(7777777L + seed);
        SnorePlay x = new SnorePlay();
        Oracle o = new Oracle();
        String[] bits = {";", ":", "+", "-", "*", "(", ")", "[", "]", "=", "<", ">", "house", "beds", "sounds", "acts",
            "sleeper", "bed", "dream", "opens", "sound", "turns", "hush", "answers", "says", "if", "then", "else", "end",
            "who", "last", "far", "act", "or", "and", "not", "0", "1", "5", "9", "10", "999", "1000", "00012", "007", "lamp",
            "?", "A", "\n", "\t", "\u00e9", "not not not not not not", "((((((", "[[[[[[", "x1", "1x", ";;"};
        for (int i = 0; i < 8; i++) {
            StringBuilder t = new StringBuilder(new Maker(r).text());
            int changes = r.nextInt(4);
            for (int c = 0; c < changes; c++) {
                int at = r.nextInt(t.length() + 1);
                String bit = bits[r.nextInt(bits.length)];
                int way = r.nextInt(4);
                if (way == 0 && at < t.length()) {
                    t.delete(at, Math.min(t.length(), at + 1 + r.nextInt(8)));
                } else if (way == 1) {
                    t.insert(at, bit);
                } else {
                    t.insert(at, " " + bit + " ");
                }
            }
            if (t.length() > 900) {
                continue;
            }
            String text = t.toString();
            same(seed, "house", tell(x, text), o.house(text), text);
            same(seed, "fault 0", x.fault(0), o.fault(0), text);
            same(seed, "fault 1", x.fault(1), o.fault(1), text);
            for (int what = 0; what < 14; what++) {
                same(seed, "count " + what, x.count(what), o.count(what), text);
            }
        }
    }

    /** Makes texts. */
    static final class Maker {
        final Random r;

        Maker(Random r) {
            this.r = r;
        }

        String gap() {
            int g = r.nextInt(12);
            return g == 0 ? "\n" : g == 1 ? "  " : " ";
        }

        String text() {
            int beds = 1 + r.nextInt(6);
            int sounds = 1 + r.nextInt(6);
            int acts = 1 + r.nextInt(4);
            StringBuilder t = new StringBuilder();
            t.append("house beds " + beds + " sounds " + sounds + " acts " + acts + gap() + ";");
            List<Integer> free = new ArrayList<>();
            for (int b = 0; b < beds; b++) {
                free.add(b);
            }
            int sleepers = r.nextInt(12) == 0 ? 0 : r.nextInt(3) == 0 ? beds : 1 + r.nextInt(beds);
            for (int s = 0; s < sleepers; s++) {
                t.append("sleeper bed " + free.remove(r.nextInt(free.size())) + " dream" + gap() + r.nextInt(10) + ";");
            }
            if (sleepers > 0 && r.nextInt(2) == 0) {
                t.append(gap() + "opens " + r.nextInt(sleepers) + " sound " + r.nextInt(sounds) + ";");
            }
            if (r.nextInt(3) > 0) {
                t.append("turns " + r.nextInt(sounds) + ";");
            }
            if (r.nextInt(2) > 0) {
                t.append("hush " + r.nextInt(10) + ";");
            }
            if (r.nextInt(5) > 0) {
                t.append("answers" + gap() + ":" + gap() + law(r.nextInt(4), true) + ";");
            }
            if (r.nextInt(5) > 1) {
                t.append("says:" + law(r.nextInt(4), false) + ";");
            }
            if (r.nextInt(6) == 0) {
                t.append("turns " + r.nextInt(sounds) + ";");
            }
            if (r.nextInt(9) == 0) {
                t.append("answers:" + law(1, true) + ";");
            }
            return t.length() > 800 ? text() : t.toString();
        }

        String law(int deep, boolean amount) {
            return amount && r.nextInt(3) > 0 ? (2 + r.nextInt(9)) + " - far + " + sum(deep) : sum(deep);
        }

        String sum(int deep) {
            StringBuilder t = new StringBuilder(term(deep));
            for (int i = r.nextInt(3); i > 0; i--) {
                t.append(gap() + (r.nextBoolean() ? "+" : "-") + gap() + term(deep));
            }
            return t.toString();
        }

        String term(int deep) {
            StringBuilder t = new StringBuilder(atom(deep));
            while (r.nextInt(4) == 0) {
                t.append("*" + atom(deep));
            }
            return t.toString();
        }

        String atom(int deep) {
            String[] names = {"who", "last", "sound", "far", "act", "dream", "hush"};
            int kind = r.nextInt(deep > 0 ? 10 : 7);
            if (kind < 5) {
                return names[r.nextInt(names.length)];
            }
            if (kind < 7) {
                return "" + (r.nextInt(6) == 0 ? r.nextInt(1000) : r.nextInt(6));
            }
            if (kind == 7) {
                return "(" + sum(deep - 1) + ")";
            }
            return " if " + truth(deep - 1) + " then " + sum(deep - 1) + " else " + sum(deep - 1) + " end ";
        }

        String truth(int deep) {
            StringBuilder t = new StringBuilder(unit(deep));
            while (r.nextInt(4) == 0) {
                t.append((r.nextBoolean() ? " or " : " and ") + unit(deep));
            }
            return t.toString();
        }

        String unit(int deep) {
            int kind = r.nextInt(6);
            if (kind == 0) {
                return "not " + unit(deep);
            }
            if (kind == 1 && deep > 0) {
                return "[" + truth(deep - 1) + "]";
            }
            return sum(deep) + " " + "=<>".charAt(r.nextInt(3)) + " " + sum(deep);
        }
    }

    /** One run of calls on one object. */
    static final class Run {
        final int seed;
        final Random r;
        final SnorePlay x = new SnorePlay();
        final Oracle o = new Oracle();
        final StringBuilder told = new StringBuilder();
        int done;

        Run(int seed) {
            this.seed = seed;
            r = new Random(1000003L * seed + 17);
        }

        void check(String call, long got, long want) {
            told.append(call).append(" -> ").append(want).append("; ");
            done++;
            same(seed, call, got, want, wrong < 3 ? told.toString() : "");
        }

        int any(int from, int to) {
            return r.nextInt(40) == 0 ? new int[] {-1, -5, 100, 1 << 30, Integer.MIN_VALUE, to + 1, from - 1}[r.nextInt(7)]
                : from + r.nextInt(to - from + 1);
        }

        void go() {
            if (r.nextInt(20) > 0) {
                newHouse();
            }
            while (done < 400 && wrong < 20) {
                int k = r.nextInt(60);
                if (k == 0 && r.nextInt(4) == 0) {
                    newHouse();
                } else if (k < 22) {
                    deed();
                } else if (k < 25) {
                    for (int what = -1; what < 14; what++) {
                        check("count(" + what + ")", x.count(what), o.count(what));
                    }
                } else {
                    ask();
                }
            }
        }

        void newHouse() {
            String text = new Maker(r).text();
            told.append("[").append(text).append("] ");
            int[] v = fives(text);
            for (int i = 0; i < v.length; i += 5) {
                check("feed", x.feed(v[i], v[i + 1], v[i + 2], v[i + 3], v[i + 4]), o.feed(20));
            }
            if (r.nextInt(9) == 0) {
                check("house", x.house(v.length * 4 + 1), -3);
                check("house", x.house(-1), -3);
            }
            check("house(" + text.length() + ")", x.house(text.length()), o.house(text));
        }

        void deed() {
            int n = o.sleepers();
            switch (r.nextInt(14)) {
                case 0: case 1: case 2: {
                    int d = any(0, n);
                    check("beat(" + d + ")", x.beat(d), o.beat(d));
                    break;
                }
                case 3: {
                    int d = any(1, 9);
                    check("beats(" + d + ")", x.beats(d), o.beats(d));
                    break;
                }
                case 4: {
                    int a = any(0, Math.max(0, n - 1));
                    int b = any(0, Math.max(0, n - 1));
                    check("change(" + a + "," + b + ")", x.change(a, b), o.change(a, b));
                    break;
                }
                case 5: {
                    int a = any(0, Math.max(0, n - 1));
                    int b = any(0, 9);
                    check("dream(" + a + "," + b + ")", x.dream(a, b), o.dream(a, b));
                    break;
                }
                case 6: {
                    int a = any(0, 9);
                    check("hush(" + a + ")", x.hush(a), o.hush(a));
                    break;
                }
                case 7: case 8: {
                    int a = any(1, r.nextInt(3) == 0 ? 10 : 2);
                    check("undo(" + a + ")", x.undo(a), o.undo(a));
                    break;
                }
                case 9: {
                    deeds();
                    break;
                }
                case 10: {
                    int s = r.nextInt();
                    int t = any(1, r.nextInt(3) == 0 ? 40 : 6);
                    check("night(" + s + "," + t + ")", x.night(s, t), o.night(s, t));
                    break;
                }
                case 11: {
                    int i = any(0, 1);
                    check("image(" + i + ")", x.image(i), o.image(i));
                    break;
                }
                case 12: {
                    int i = any(0, 1);
                    check("restore(" + i + ")", x.restore(i), o.restore(i));
                    break;
                }
                default: {
                    int t = any(0, 3);
                    int what = any(0, 1);
                    check("lists(" + t + "," + what + ")", x.lists(t, what), o.lists(t, what));
                    check("heard(" + t + ")", x.heard(t), o.heard(t));
                    check("hushes(" + t + ")", x.hushes(t), o.hushes(t));
                    check("attempt(" + t + ")", x.attempt(t), o.attempt(t));
                }
            }
        }

        void lay(int t, int sort, int n, long[] v) {
            check("numbers(" + t + "," + sort + "," + n + ")", x.numbers(t, sort, n), o.numbers(t, sort, n));
            for (int i = 0; i < n && i < v.length; i++) {
                check("write(" + t + "," + i + "," + v[i] + ")", x.write(t, i, v[i]), o.write(t, i, v[i]));
            }
        }

        void deeds() {
            int t = any(0, 3);
            int n = r.nextInt(7);
            long[] v = new long[n];
            int s = Math.max(1, o.sleepers());
            for (int i = 0; i < n; i++) {
                int k = r.nextInt(30);
                v[i] = k < 16 ? r.nextInt(s + 1) : k < 19 ? 10 + r.nextInt(10)
                    : k < 23 ? 100 + 10 * r.nextInt(s) + r.nextInt(s) : k < 28 ? 200 + 10 * r.nextInt(s) + r.nextInt(10)
                    : k < 29 ? r.nextInt(320) - 10 : r.nextLong();
            }
            if (t >= 0 && t < 4) {
                lay(t, 1 + r.nextInt(3), n, v);
            }
            for (int what = 0; what < 4; what++) {
                check("judge(" + t + "," + what + ")", x.judge(t, what), o.judge(t, what));
            }
            check("perform(" + t + ")", x.perform(t), o.perform(t));
        }

        void ask() {
            int n = o.sleepers();
            switch (r.nextInt(17)) {
                case 0: {
                    int s = any(0, Math.max(0, n - 1));
                    int what = any(0, 1);
                    check("sleeper(" + s + "," + what + ")", x.sleeper(s, what), o.sleeper(s, what));
                    check("would(" + s + ")", x.would(s), o.would(s));
                    break;
                }
                case 1: {
                    int d = any(0, n);
                    for (int what = 0; what < 3; what++) {
                        check("by(" + d + "," + what + ")", x.by(d, what), o.by(d, what));
                    }
                    int w = any(0, 2);
                    check("by(" + d + "," + w + ")", x.by(d, w), o.by(d, w));
                    break;
                }
                case 2: {
                    int what = any(0, 1);
                    check("goes(" + what + ")", x.goes(what), o.goes(what));
                    check("round(" + what + ")", x.round(what), o.round(what));
                    break;
                }
                case 3: {
                    int i = r.nextInt(5) == 0 ? any(1, 99999) : any(1, 30);
                    check("lies(" + i + ")", x.lies(i), o.lies(i));
                    break;
                }
                case 4: {
                    int what = any(0, 1);
                    check("soonest(" + what + ")", x.soonest(what), o.soonest(what));
                    for (int i = 0; i < 4; i++) {
                        check("way(" + what + "," + i + ")", x.way(what, i), o.way(what, i));
                    }
                    int i = any(0, 20);
                    check("way(" + what + "," + i + ")", x.way(what, i), o.way(what, i));
                    break;
                }
                case 5: {
                    int what = any(0, 2);
                    int i = any(0, 10);
                    check("rows(" + what + "," + i + ")", x.rows(what, i), o.rows(what, i));
                    break;
                }
                case 6: {
                    check("keeps()", x.keeps(), o.keeps());
                    for (int i = 0; i < 4; i++) {
                        check("keeping(" + i + ")", x.keeping(i), o.keeping(i));
                    }
                    int i = any(0, 99);
                    check("keeping(" + i + ")", x.keeping(i), o.keeping(i));
                    break;
                }
                case 7:
                    check("heardOf()", x.heardOf(), o.heardOf());
                    break;
                case 8: {
                    check("placing(0)", x.placing(0), o.placing(0));
                    for (int s = 0; s < n; s++) {
                        check("placing(" + (10 + s) + ")", x.placing(10 + s), o.placing(10 + s));
                    }
                    int what = any(0, 16);
                    check("placing(" + what + ")", x.placing(what), o.placing(what));
                    break;
                }
                case 9: {
                    int s = any(0, Math.max(0, n - 1));
                    check("fills(" + s + ")", x.fills(s), o.fills(s));
                    break;
                }
                case 10: case 11: case 12: {
                    heardOnes();
                    break;
                }
                case 13:
                    said();
                    break;
                case 14:
                    check("forces()", x.forces(), o.forces());
                    check("best()", x.best(), o.best());
                    break;
                default: {
                    int i = any(0, 7);
                    int what = any(0, 1);
                    check("chance(" + i + "," + what + ")", x.chance(i, what), o.chance(i, what));
                    check("mean(" + i + "," + what + ")", x.mean(i, what), o.mean(i, what));
                }
            }
        }

        void heardOnes() {
            int t = r.nextInt(4);
            int n = r.nextInt(30) == 0 ? any(0, 9) : 1 + r.nextInt(4);
            long[] v = new long[Math.max(0, Math.min(n, 40))];
            int sounds = (int) o.count(2);
            for (int i = 0; i < v.length; i++) {
                v[i] = r.nextInt(40) == 0 ? any(0, 6) : r.nextInt(2) == 0 ? -1 : r.nextInt(sounds);
            }
            // Now and then what can truly be heard.
            if (r.nextInt(2) == 0) {
                o.hearSome(v, r);
            }
            lay(t, r.nextInt(4), n, v);
            if (r.nextInt(20) == 0) {
                t = any(0, 3);
            }
            check("heard(" + t + ")", x.heard(t), o.heard(t));
            for (int i = -1; i < 5; i++) {
                check("heardBy(" + t + "," + i + ")", x.heardBy(t, i), o.heardBy(t, i));
                check("suspects(" + t + "," + i + ")", x.suspects(t, i), o.suspects(t, i));
            }
        }

        void said() {
            int t = r.nextInt(4);
            int n = r.nextInt(30) == 0 ? any(0, 9) : 1 + r.nextInt(3);
            long[] v = new long[Math.max(0, Math.min(n, 40))];
            for (int i = 0; i < v.length; i++) {
                v[i] = r.nextInt(40) == 0 ? any(0, 6) : r.nextInt(Math.max(1, o.sleepers()));
            }
            if (r.nextInt(3) > 0) {
                o.saySome(v, r.nextInt(10));
            }
            lay(t, r.nextInt(4), n, v);
            check("hushes(" + t + ")", x.hushes(t), o.hushes(t));
            check("attempt(" + t + ")", x.attempt(t), o.attempt(t));
        }
    }

    // ------------------------------------------------------------------ the second telling

    static final class Fault extends RuntimeException {
        final int kind;
        final int place;

        Fault(int kind, int place) {
            this.kind = kind;
            this.place = place;
        }
    }

    interface Value {
        int of(Map<String, Integer> names);
    }

    interface Truth {
        boolean of(Map<String, Integer> names);
    }

    static int keep(long v) {
        return (int) Math.min(1000000L, Math.max(-1000000L, v));
    }

    record Token(String text, int place, boolean good) {
        boolean isN() {
            return good && !text.isEmpty() && Character.isDigit(text.charAt(0));
        }
    }

    static final class Told {
        int beds = 1, sounds = 1, acts = 1, last = 0, sound = 0, turns = 0, hush = 0, lines = 0;
        List<Integer> bed = new ArrayList<>();
        List<Integer> dream = new ArrayList<>();
        Value answers = m -> 10 - m.get("far");
        Value says = m -> m.get("sound") + m.get("dream");
    }

    static final class Parser {
        final List<Token> tokens = new ArrayList<>();
        int at = 0;
        final Told told = new Told();

        Parser(String text) {
            int i = 0;
            while (i < text.length()) {
                char c = text.charAt(i);
                if (c == ' ' || c == '\n') {
                    i++;
                    continue;
                }
                int j = i;
                if (c >= 'a' && c <= 'z') {
                    while (j < text.length() && text.charAt(j) >= 'a' && text.charAt(j) <= 'z') {
                        j++;
                    }
                    tokens.add(new Token(text.substring(i, j), i, true));
                } else if (c >= '0' && c <= '9') {
                    while (j < text.length() && text.charAt(j) >= '0' && text.charAt(j) <= '9') {
                        j++;
                    }
                    tokens.add(new Token(text.substring(i, j), i, j - i <= 3));
                } else {
                    j = i + 1;
                    tokens.add(new Token(text.substring(i, j), i, ";:+-*()[]=<>".contains("" + c)));
                }
                i = j;
            }
            tokens.add(new Token("", text.length(), true));
        }

        Token peek() {
            Token t = tokens.get(at);
            if (!t.good()) {
                throw new Fault(1, t.place());
            }
            return t;
        }

        Token take() {
            Token t = peek();
            at++;
            return t;
        }

        boolean sees(String s) {
            return peek().text().equals(s);
        }

        Token want(String s) {
            if (!sees(s)) {
                throw new Fault(2, peek().place());
            }
            return take();
        }

        int number(int from, int to) {
            if (!peek().isN()) {
                throw new Fault(2, peek().place());
            }
            int v = Integer.parseInt(peek().text());
            if (v < from || v > to) {
                throw new Fault(3, peek().place());
            }
            take();
            return v;
        }

        Told parse() {
            want("house");
            want("beds");
            told.beds = number(1, 6);
            want("sounds");
            told.sounds = number(1, 6);
            want("acts");
            told.acts = number(1, 4);
            want(";");
            told.lines = 1;
            while (!sees("")) {
                line();
                want(";");
                told.lines++;
            }
            return told;
        }

        void line() {
            String word = peek().text();
            if (word.equals("sleeper")) {
                if (told.bed.size() == told.beds) {
                    throw new Fault(4, peek().place());
                }
                take();
                want("bed");
                Token t = peek();
                int bed = number(0, told.beds - 1);
                if (told.bed.contains(bed)) {
                    throw new Fault(3, t.place());
                }
                want("dream");
                int dream = number(0, 9);
                told.bed.add(bed);
                told.dream.add(dream);
            } else if (word.equals("opens")) {
                take();
                told.last = number(0, told.bed.size() - 1);
                want("sound");
                told.sound = number(0, told.sounds - 1);
            } else if (word.equals("turns")) {
                take();
                told.turns = number(0, told.sounds - 1);
            } else if (word.equals("hush")) {
                take();
                told.hush = number(0, 9);
            } else if (word.equals("answers")) {
                take();
                want(":");
                told.answers = sum(0);
            } else if (word.equals("says")) {
                take();
                want(":");
                told.says = sum(0);
            } else {
                throw new Fault(2, peek().place());
            }
        }

        Value sum(int deep) {
            Value v = term(deep);
            while (sees("+") || sees("-")) {
                boolean plus = take().text().equals("+");
                Value a = v;
                Value b = term(deep);
                v = plus ? m -> keep((long) a.of(m) + b.of(m)) : m -> keep((long) a.of(m) - b.of(m));
            }
            return v;
        }

        Value term(int deep) {
            Value v = atom(deep);
            while (sees("*")) {
                take();
                Value a = v;
                Value b = atom(deep);
                v = m -> keep((long) a.of(m) * b.of(m));
            }
            return v;
        }

        int deeper(int deep) {
            if (deep == 6) {
                throw new Fault(4, peek().place());
            }
            take();
            return deep + 1;
        }

        Value atom(int deep) {
            Token t = peek();
            if (t.isN()) {
                int n = number(0, 999);
                return m -> n;
            }
            if (List.of("who", "last", "sound", "far", "act", "dream", "hush").contains(t.text())) {
                take();
                return m -> m.get(t.text());
            }
            if (sees("(")) {
                Value v = sum(deeper(deep));
                want(")");
                return v;
            }
            if (sees("if")) {
                int in = deeper(deep);
                Truth c = truth(in);
                want("then");
                Value a = sum(in);
                want("else");
                Value b = sum(in);
                want("end");
                return m -> c.of(m) ? a.of(m) : b.of(m);
            }
            throw new Fault(2, t.place());
        }

        Truth truth(int deep) {
            Truth v = both(deep);
            while (sees("or")) {
                take();
                Truth a = v;
                Truth b = both(deep);
                v = m -> a.of(m) || b.of(m);
            }
            return v;
        }

        Truth both(int deep) {
            Truth v = unit(deep);
            while (sees("and")) {
                take();
                Truth a = v;
                Truth b = unit(deep);
                v = m -> a.of(m) && b.of(m);
            }
            return v;
        }

        Truth unit(int deep) {
            if (sees("not")) {
                Truth v = unit(deeper(deep));
                return m -> !v.of(m);
            }
            if (sees("[")) {
                Truth v = truth(deeper(deep));
                want("]");
                return v;
            }
            Value a = sum(deep);
            if (!sees("=") && !sees("<") && !sees(">")) {
                throw new Fault(2, peek().place());
            }
            String sign = take().text();
            Value b = sum(deep);
            return m -> sign.equals("=") ? a.of(m) == b.of(m) : sign.equals("<") ? a.of(m) < b.of(m) : a.of(m) > b.of(m);
        }
    }

    record Moment(int last, int sound, int act, boolean still) { }

    record Whole(Told told, List<Integer> bed, List<Integer> dream, int hush, Moment moment, int beats) {
        Whole at(Moment m) {
            return new Whole(told, bed, dream, hush, m, beats);
        }

        Whole hushed(int h) {
            return new Whole(told, bed, dream, h, moment, beats);
        }

        Whole dreaming(int s, int n) {
            List<Integer> d = new ArrayList<>(dream);
            d.set(s, n);
            return new Whole(told, bed, d, hush, moment, beats);
        }

        Whole inBeds(List<Integer> b) {
            return new Whole(told, b, dream, hush, moment, beats);
        }

        boolean ended() {
            return moment.act() == told.acts;
        }

        boolean on() {
            return !ended() && !moment.still();
        }

        int law(Value law, int who) {
            Map<String, Integer> m = new HashMap<>();
            m.put("who", who);
            m.put("last", moment.last());
            m.put("sound", moment.sound());
            m.put("far", Math.abs(bed.get(who) - bed.get(moment.last())));
            m.put("act", moment.act());
            m.put("dream", dream.get(who));
            m.put("hush", hush);
            return law.of(m);
        }

        Whole beat(int deed) {
            int who = -1;
            for (int s = bed.size() - 1; s >= 0; s--) {
                if (s != moment.last() && s != deed - 1 && law(told.answers, s) > 0
                    && (who < 0 || law(told.answers, s) >= law(told.answers, who))) {
                    who = s;
                }
            }
            if (who < 0) {
                return at(new Moment(moment.last(), moment.sound(), moment.act(), true));
            }
            int sound = law(told.says, who);
            while (sound < 0) {
                sound += 6000 * told.sounds;
            }
            sound %= told.sounds;
            Moment m = new Moment(who, sound, moment.act() + (sound == told.turns ? 1 : 0), false);
            return new Whole(told, bed, dream, hush, m, beats + 1);
        }
    }

    static final class Oracle {
        Whole w = open(new Told());
        final List<Whole> past = new ArrayList<>();
        final Whole[] images = new Whole[2];
        final long[][] trays = new long[4][];
        final int[] sorts = new int[4];
        int tape = 0;
        int fault = 0;
        int place = -1;
        final Map<Moment, Whole[]> known = new HashMap<>();
        Whole knownFor = null;

        static Whole open(Told t) {
            boolean none = t.bed.isEmpty();
            return new Whole(t, t.bed, t.dream, t.hush, new Moment(none ? -1 : t.last, t.sound, 0, none), 0);
        }

        int feed(int n) {
            tape += n;
            return tape;
        }

        int house(String text) {
            tape = 0;
            try {
                Told t = new Parser(text).parse();
                w = open(t);
                past.clear();
                fault = 0;
                place = -1;
                return t.lines;
            } catch (Fault f) {
                fault = f.kind;
                place = f.place;
                return -30 - f.kind;
            }
        }

        int fault(int what) {
            return what == 0 ? fault : what == 1 ? place : -1;
        }

        int sleepers() {
            return w.bed().size();
        }

        boolean has(int s) {
            return s >= 0 && s < sleepers();
        }

        int sleeper(int s, int what) {
            return !has(s) || what < 0 || what > 1 ? -2 : what == 0 ? w.bed().get(s) : w.dream().get(s);
        }

        int would(int s) {
            return has(s) ? w.law(w.told().answers, s) : -99000002;
        }

        /** Beats by moments, kept as long as nothing else changes. */
        Whole next(Whole from, int deed) {
            if (knownFor == null || knownFor.told() != from.told() || !knownFor.bed().equals(from.bed())
                || !knownFor.dream().equals(from.dream()) || knownFor.hush() != from.hush()) {
                known.clear();
                knownFor = from;
            }
            Whole[] all = known.computeIfAbsent(from.moment(), m -> {
                Whole[] row = new Whole[sleepers() + 1];
                for (int d = 0; d < row.length; d++) {
                    row[d] = from.beat(d);
                }
                return row;
            });
            return all[deed];
        }

        int by(int deed, int what) {
            if (what < 0 || what > 2) {
                return -2;
            }
            if (deed < 0 || deed > sleepers() || !w.on()) {
                return -5;
            }
            Moment m = w.beat(deed).moment();
            return what == 0 ? (m.still() ? -1 : m.last()) : what == 1 ? m.sound() : m.act();
        }

        /** The whole behind a deed, or why not, told as a number. */
        Object doing(Whole on, long v) {
            if (v >= 0 && v <= 9) {
                return v > sleepers() ? (Object) 1 : !on.on() ? (Object) 2 : on.beat((int) v);
            }
            if (v >= 10 && v <= 19) {
                return on.hushed((int) v - 10);
            }
            if (v >= 100 && v <= 199) {
                int a = (int) (v - 100) / 10;
                int b = (int) (v % 10);
                if (!has(a) || !has(b) || a == b) {
                    return 1;
                }
                List<Integer> beds = new ArrayList<>(on.bed());
                beds.set(a, on.bed().get(b));
                beds.set(b, on.bed().get(a));
                return on.inBeds(beds);
            }
            if (v >= 200 && v <= 299) {
                int a = (int) (v - 200) / 10;
                return has(a) ? on.dreaming(a, (int) (v % 10)) : (Object) 1;
            }
            return 1;
        }

        void become(Whole then) {
            past.add(w);
            if (past.size() > 10) {
                past.remove(0);
            }
            w = then;
        }

        int beat(int deed) {
            Object then = deed > 9 ? (Object) 1 : doing(w, deed);
            if (then instanceof Integer why) {
                return -10 - why;
            }
            become((Whole) then);
            return w.moment().still() ? -1 : w.moment().last();
        }

        int beats(int n) {
            if (n < 1 || n > 99) {
                return -3;
            }
            Whole then = w;
            for (int i = 0; i < n && then.on(); i++) {
                then = then.beat(0);
            }
            int snored = then.beats() - w.beats();
            if (w.on()) {
                become(then);
            }
            return snored;
        }

        int change(int s, int other) {
            if (!has(s) || !has(other) || s == other) {
                return -11;
            }
            become((Whole) doing(w, 100 + 10 * s + other));
            return w.bed().get(s);
        }

        int dream(int s, int n) {
            if (!has(s) || n < 0 || n > 9) {
                return -11;
            }
            int had = w.dream().get(s);
            become(w.dreaming(s, n));
            return had;
        }

        int hush(int n) {
            if (n < 0 || n > 9) {
                return -11;
            }
            int was = w.hush();
            become(w.hushed(n));
            return was;
        }

        int undo(int n) {
            if (n < 1 || n > past.size()) {
                return -3;
            }
            for (int i = 0; i < n; i++) {
                w = past.remove(past.size() - 1);
            }
            return past.size();
        }

        int tray(int t) {
            return t < 0 || t > 3 ? -2 : trays[t] == null ? -6 : 0;
        }

        int judge(int t, int what) {
            if (t < 0 || t > 3 || what < 0 || what > 3) {
                return -2;
            }
            if (trays[t] == null) {
                return -6;
            }
            Whole on = w;
            int at = -1;
            int why = 0;
            for (int i = 0; i < trays[t].length && at < 0; i++) {
                Object then = doing(on, trays[t][i]);
                if (then instanceof Integer number) {
                    at = i;
                    why = number;
                } else {
                    on = (Whole) then;
                }
            }
            return what == 0 ? at : what == 1 ? why : what == 2 ? on.moment().last() : 10 * on.moment().act() + on.moment().sound();
        }

        int perform(int t) {
            if (tray(t) != 0) {
                return tray(t);
            }
            int n = judge(t, 0);
            if (n < 0) {
                n = trays[t].length;
            }
            Whole then = w;
            for (int i = 0; i < n; i++) {
                then = (Whole) doing(then, trays[t][i]);
            }
            if (n > 0) {
                become(then);
            }
            return n;
        }

        int x;

        int draw(int by) {
            x = 1103515245 * x + 12345;
            return (x >>> 16) % by;
        }

        int night(int seed, int times) {
            if (times < 1 || times > 40) {
                return -3;
            }
            x = seed;
            Whole then = w;
            int n = 0;
            for (int i = 0; i < times; i++) {
                long deed = 0;
                int kind = draw(6);
                if (kind == 2) {
                    deed = draw(7);
                } else if (kind == 3) {
                    deed = 10 + draw(10);
                } else if (kind == 4) {
                    deed = 100 + 10 * draw(6);
                    deed += draw(6);
                } else if (kind == 5) {
                    deed = 200 + 10 * draw(6);
                    deed += draw(10);
                }
                Object done = doing(then, deed);
                if (done instanceof Whole whole) {
                    then = whole;
                    n++;
                }
            }
            if (n > 0) {
                become(then);
            }
            return n;
        }

        /** The moments of the play left alone, till it stops or one comes again (which is the last, too). */
        List<Moment> alone(Whole from) {
            List<Moment> row = new ArrayList<>();
            row.add(from.moment());
            Whole on = from;
            while (on.on()) {
                on = on.beat(0);
                boolean again = row.contains(on.moment());
                row.add(on.moment());
                if (again) {
                    break;
                }
            }
            return row;
        }

        int goes(int what) {
            if (what < 0 || what > 1) {
                return -2;
            }
            List<Moment> row = alone(w);
            Moment end = row.get(row.size() - 1);
            int how = end.act() == w.told().acts ? 0 : end.still() ? 1 : 2;
            return what == 0 ? how : how == 2 ? -1 : row.size() - 1;
        }

        int round(int what) {
            if (what < 0 || what > 1) {
                return -2;
            }
            if (goes(0) != 2) {
                return -1;
            }
            List<Moment> row = alone(w);
            int first = row.indexOf(row.get(row.size() - 1));
            return what == 0 ? first : row.size() - 1 - first;
        }

        int lies(int n) {
            if (n < 1 || n > 99999) {
                return -3;
            }
            Whole on = w;
            for (int i = 0; i < n; i++) {
                if (!on.on()) {
                    return -1;
                }
                on = next(on, 0);
            }
            return on.moment().still() ? -1 : on.moment().last();
        }

        boolean goal(Whole on, int what) {
            return what == 0 ? on.ended() : on.moment().still();
        }

        /** The first of the shortest rows; null: there is none. Breadth first, deeds in their order. */
        List<Integer> shortest(int what) {
            Map<Moment, List<Integer>> met = new LinkedHashMap<>();
            ArrayDeque<Whole> queue = new ArrayDeque<>();
            met.put(w.moment(), List.of());
            queue.add(w);
            while (!queue.isEmpty()) {
                Whole on = queue.poll();
                if (goal(on, what)) {
                    return met.get(on.moment());
                }
                for (int d = 0; on.on() && d <= sleepers(); d++) {
                    Whole then = next(on, d);
                    if (!met.containsKey(then.moment())) {
                        List<Integer> row = new ArrayList<>(met.get(on.moment()));
                        row.add(d);
                        met.put(then.moment(), row);
                        queue.add(then);
                    }
                }
            }
            return null;
        }

        int soonest(int what) {
            if (what < 0 || what > 1) {
                return -2;
            }
            List<Integer> row = shortest(what);
            return row == null ? -1 : row.size();
        }

        int way(int what, int i) {
            if (what < 0 || what > 1) {
                return -2;
            }
            if (i < 0) {
                return -3;
            }
            List<Integer> row = shortest(what);
            return row == null || i >= row.size() ? -1 : row.get(i);
        }

        long rows(int what, int n) {
            if (what < 0 || what > 2) {
                return -2;
            }
            if (n < 0 || n > 10) {
                return -3;
            }
            return rowsFrom(w, what, n, new HashMap<>());
        }

        long rowsFrom(Whole on, int what, int n, Map<List<Object>, Long> memo) {
            if (n == 0) {
                return (what == 2 ? on.on() : goal(on, what)) ? 1 : 0;
            }
            if (!on.on()) {
                return 0;
            }
            List<Object> key = List.of(on.moment(), n);
            Long before = memo.get(key);
            if (before == null) {
                long all = 0;
                for (int d = 0; d <= sleepers(); d++) {
                    all += rowsFrom(next(on, d), what, n - 1, memo);
                }
                before = all;
                memo.put(key, before);
            }
            return before;
        }

        /** Whether a row of so many beats leaves it going on. */
        boolean lasts(Whole on, int n, Map<List<Object>, Boolean> memo) {
            if (!on.on()) {
                return false;
            }
            if (n == 0) {
                return true;
            }
            List<Object> key = List.of(on.moment(), n);
            Boolean before = memo.get(key);
            if (before == null) {
                before = false;
                for (int d = 0; d <= sleepers() && !before; d++) {
                    before = lasts(next(on, d), n - 1, memo);
                }
                memo.put(key, before);
            }
            return before;
        }

        // More moments than there are can't follow without one coming again.
        static final int EVER = 150;

        int keeps() {
            if (!w.on()) {
                return -5;
            }
            Map<List<Object>, Boolean> memo = new HashMap<>();
            if (lasts(w, EVER, memo)) {
                return -1;
            }
            int n = 0;
            while (lasts(w, n + 1, memo)) {
                n++;
            }
            return n;
        }

        int keeping(int i) {
            if (i < 0 || i > 99) {
                return -3;
            }
            int most = keeps();
            if (most == -5) {
                return -5;
            }
            if (most >= 0 && i >= most) {
                return -1;
            }
            Map<List<Object>, Boolean> memo = new HashMap<>();
            Whole on = w;
            int deed = -1;
            for (int step = 0; step <= i; step++) {
                int left = most < 0 ? EVER : most - step - 1;
                deed = 0;
                while (!lasts(next(on, deed), left, memo)) {
                    deed++;
                }
                on = next(on, deed);
            }
            return deed;
        }

        int heardOf() {
            TreeSet<Integer> who = new TreeSet<>();
            Map<Moment, Boolean> met = new HashMap<>();
            ArrayDeque<Whole> queue = new ArrayDeque<>();
            queue.add(w);
            met.put(w.moment(), true);
            while (!queue.isEmpty()) {
                Whole on = queue.poll();
                for (int d = 0; on.on() && d <= sleepers(); d++) {
                    Whole then = next(on, d);
                    if (!then.moment().still()) {
                        who.add(then.moment().last());
                    }
                    if (met.put(then.moment(), true) == null) {
                        queue.add(then);
                    }
                }
            }
            int bits = 0;
            for (int s : who) {
                bits |= 1 << s;
            }
            return bits;
        }

        /** In how many beats it ends left alone, or -1. */
        int ends(Whole from) {
            List<Moment> row = alone(from);
            return row.get(row.size() - 1).act() == from.told().acts ? row.size() - 1 : -1;
        }

        int bestBeats;
        List<Integer> bestBeds;

        void orders(List<Integer> chosen, List<Integer> left) {
            if (left.isEmpty()) {
                int n = ends(w.inBeds(chosen));
                if (n >= 0 && (bestBeats < 0 || n < bestBeats)) {
                    bestBeats = n;
                    bestBeds = new ArrayList<>(chosen);
                }
                return;
            }
            for (int i = 0; i < left.size(); i++) {
                List<Integer> more = new ArrayList<>(chosen);
                more.add(left.get(i));
                List<Integer> fewer = new ArrayList<>(left);
                fewer.remove(i);
                orders(more, fewer);
            }
        }

        Whole placedFor;

        int placing(int what) {
            if (what != 0 && (what < 10 || !has(what - 10))) {
                return -2;
            }
            if (placedFor != w) {
                placedFor = w;
                bestBeats = -1;
                bestBeds = null;
                List<Integer> beds = new ArrayList<>(w.bed());
                beds.sort(null);
                orders(List.of(), beds);
            }
            return what == 0 || bestBeats < 0 ? bestBeats : bestBeds.get(what - 10);
        }

        int fills(int s) {
            if (!has(s)) {
                return -2;
            }
            int bits = 0;
            for (int n = 0; n < 10; n++) {
                bits |= ends(w.dreaming(s, n)) >= 0 ? 1 << n : 0;
            }
            return bits;
        }

        int heardCode(int t) {
            if (tray(t) != 0) {
                return tray(t);
            }
            if (trays[t].length < 1 || trays[t].length > 8) {
                return -4;
            }
            for (long v : trays[t]) {
                if (v < -1 || v >= w.told().sounds) {
                    return -3;
                }
            }
            return 0;
        }

        long fitting;
        List<Integer> firstFitting;
        int[] suspected;

        /** All rows, one by one. */
        void hear(long[] v, Whole on, List<Integer> deeds, List<Integer> who) {
            int i = deeds.size();
            if (i == v.length) {
                fitting++;
                if (firstFitting == null) {
                    firstFitting = new ArrayList<>(deeds);
                }
                for (int k = 0; k < i; k++) {
                    suspected[k] |= 1 << who.get(k);
                }
                return;
            }
            for (int d = 0; on.on() && d <= sleepers(); d++) {
                Whole then = next(on, d);
                if (!then.moment().still() && (v[i] == -1 || v[i] == then.moment().sound())) {
                    deeds.add(d);
                    who.add(then.moment().last());
                    hear(v, then, deeds, who);
                    deeds.remove(i);
                    who.remove(i);
                }
            }
        }

        void hear(int t) {
            fitting = 0;
            firstFitting = null;
            suspected = new int[8];
            hear(trays[t], w, new ArrayList<>(), new ArrayList<>());
        }

        void hearSome(long[] v, Random r) {
            Whole on = w;
            for (int i = 0; i < v.length && on.on(); i++) {
                on = on.beat(r.nextInt(sleepers() + 1));
                if (r.nextInt(4) > 0) {
                    v[i] = on.moment().sound();
                }
            }
        }

        void saySome(long[] v, int hush) {
            Whole on = w.hushed(hush);
            for (int i = 0; i < v.length && on.on(); i++) {
                on = on.beat(0);
                v[i] = on.moment().last();
            }
        }

        long heard(int t) {
            if (heardCode(t) != 0) {
                return heardCode(t);
            }
            hear(t);
            return fitting;
        }

        int heardBy(int t, int i) {
            if (heardCode(t) != 0) {
                return heardCode(t);
            }
            if (i < 0) {
                return -3;
            }
            hear(t);
            return firstFitting == null || i >= firstFitting.size() ? -1 : firstFitting.get(i);
        }

        int suspects(int t, int i) {
            if (heardCode(t) != 0) {
                return heardCode(t);
            }
            if (i < 0) {
                return -3;
            }
            if (i >= trays[t].length) {
                return -7;
            }
            hear(t);
            return suspected[i];
        }

        int hushes(int t) {
            if (tray(t) != 0) {
                return tray(t);
            }
            if (trays[t].length < 1 || trays[t].length > 8) {
                return -4;
            }
            for (long v : trays[t]) {
                if (v < 0 || v >= sleepers()) {
                    return -3;
                }
            }
            int bits = 0;
            for (int h = 0; h < 10; h++) {
                Whole on = w.hushed(h);
                boolean so = true;
                for (long v : trays[t]) {
                    so = so && on.on();
                    if (so) {
                        on = on.beat(0);
                        so = !on.moment().still() && on.moment().last() == v;
                    }
                }
                bits |= so ? 1 << h : 0;
            }
            return bits;
        }

        int attempt(int t) {
            int bits = hushes(t);
            if (bits < 0) {
                return bits;
            }
            if (bits == 0) {
                return -1;
            }
            int chosen = -1;
            int least = 99;
            for (int d = 0; d <= sleepers(); d++) {
                Map<String, Integer> groups = new HashMap<>();
                for (int h = 0; h < 10; h++) {
                    if ((bits >> h & 1) == 1) {
                        Moment m = w.hushed(h).beat(d).moment();
                        groups.merge(m.still() ? "nobody" : m.last() + " by " + m.sound(), 1, Integer::sum);
                    }
                }
                int most = 0;
                for (int n : groups.values()) {
                    most = Math.max(most, n);
                }
                if (most < least) {
                    least = most;
                    chosen = d;
                }
            }
            return chosen;
        }

        boolean forced(Whole on, int n, boolean mine, Map<List<Object>, Boolean> memo) {
            if (on.ended()) {
                return true;
            }
            if (n == 0 || !on.on()) {
                return false;
            }
            List<Object> key = List.of(on.moment(), n, mine);
            Boolean before = memo.get(key);
            if (before == null) {
                before = !mine;
                for (int d = 0; d <= sleepers(); d++) {
                    boolean so = forced(next(on, d), n - 1, !mine, memo);
                    before = mine ? before || so : before && so;
                }
                memo.put(key, before);
            }
            return before;
        }

        int forces() {
            Map<List<Object>, Boolean> memo = new HashMap<>();
            for (int n = 0; n <= 2 * EVER; n++) {
                if (forced(w, n, true, memo)) {
                    return n;
                }
            }
            return -1;
        }

        int best() {
            int n = forces();
            Map<List<Object>, Boolean> memo = new HashMap<>();
            for (int d = 0; n > 0 && d <= sleepers(); d++) {
                if (forced(next(w, d), n - 1, false, memo)) {
                    return d;
                }
            }
            return -1;
        }

        /** Of the draws of n lots, how many end it, or their acts added. */
        long lots(Whole on, int n, boolean acts, Map<List<Object>, Long> memo) {
            if (n == 0) {
                return acts ? on.moment().act() : on.ended() ? 1 : 0;
            }
            List<Object> key = List.of(on.moment(), n);
            Long before = memo.get(key);
            if (before == null) {
                long all = 0;
                for (int lot = 0; lot < 10; lot++) {
                    all += lots(on.on() ? next(on, lot < sleepers() ? lot + 1 : 0) : on, n - 1, acts, memo);
                }
                before = all;
                memo.put(key, before);
            }
            return before;
        }

        int portion(int n, int what, boolean acts) {
            if (what < 0 || what > 1) {
                return -2;
            }
            if (n < 0 || n > 7) {
                return -3;
            }
            long above = lots(w, n, acts, new HashMap<>());
            long below = 1;
            for (int i = 0; i < n; i++) {
                below *= 10;
            }
            for (int p : new int[] {2, 5}) {
                while (above % p == 0 && below % p == 0) {
                    above /= p;
                    below /= p;
                }
            }
            return (int) (what == 0 ? above : below);
        }

        int chance(int n, int what) {
            return portion(n, what, false);
        }

        int mean(int n, int what) {
            return portion(n, what, true);
        }

        int numbers(int t, int sort, int n) {
            if (t < 0 || t > 3 || sort < 0 || sort > 3) {
                return -2;
            }
            if (n < 0 || n > 40) {
                return -3;
            }
            trays[t] = new long[n];
            sorts[t] = sort;
            return 0;
        }

        long write(int t, int i, long v) {
            if (tray(t) != 0) {
                return tray(t);
            }
            if (i < 0 || i >= trays[t].length) {
                return -7;
            }
            int shift = 64 - (8 << sorts[t]);
            trays[t][i] = v << shift >> shift;
            return trays[t][i];
        }

        int lists(int t, int what) {
            if (t < 0 || t > 3 || what < 0 || what > 1) {
                return -2;
            }
            if (trays[t] == null) {
                return -6;
            }
            Whole on = w;
            for (int i = 0; i < trays[t].length; i++) {
                if (!on.on()) {
                    return i;
                }
                on = on.beat(0);
                if (on.moment().still()) {
                    return i;
                }
                trays[t][i] = what == 0 ? on.moment().last() : on.moment().sound();
            }
            return trays[t].length;
        }

        int image(int i) {
            if (i < 0 || i > 1) {
                return -2;
            }
            images[i] = w;
            return 0;
        }

        int restore(int i) {
            if (i < 0 || i > 1) {
                return -2;
            }
            if (images[i] == null) {
                return -5;
            }
            w = images[i];
            past.clear();
            return 0;
        }

        long count(int what) {
            Told t = w.told();
            Moment m = w.moment();
            int[] all = {t.beds, sleepers(), t.sounds, t.acts, m.last(), m.sound(), m.act(), w.ended() ? 1 : m.still() ? 2 : 0,
                w.hush(), w.beats(), past.size(), tape, t.lines};
            return what < 0 || what >= all.length ? -1 : all[what];
        }
    }
}
