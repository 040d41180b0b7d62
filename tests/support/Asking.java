/** What tests of single answers share: texts told to an object, answers compared, and how it ends. */
abstract class Asking {
    static int wrong = 0;
    static int asked = 0;
    static String promise = "";
    static String words = "";

    // Two who answer each other; by the dream of sleeper 0 the second snore is the sound that turns.
    static final String PAIR = "house beds 2 sounds 2 acts 1;sleeper bed 0 dream 1;sleeper bed 1 dream 0;turns 1;";
    // Sound 1 for ever: behind the first beat all comes round each two beats.
    static final String ROUND = "house beds 2 sounds 3 acts 1;sleeper bed 0 dream 0;sleeper bed 1 dream 0;turns 2;says:1;";
    // Three in a row; the sound is who snores; sleeper 2 turns it.
    static final String NAMES = "house beds 3 sounds 3 acts 1;sleeper bed 0 dream 0;sleeper bed 1 dream 0;"
        + "sleeper bed 2 dream 0;turns 2;says:who;";
    // How far one may lie depends on the hush.
    static final String HUSHED = "house beds 6 sounds 3 acts 4;sleeper bed 0 dream 1;sleeper bed 2 dream 1;"
        + "sleeper bed 5 dream 1;turns 2;hush 1;answers : 10 - far - hush;";
    // One alone: nobody is left to answer.
    static final String ALONE = "house beds 1 sounds 1 acts 1;sleeper bed 0 dream 5;";

    private static int askedBefore = 0;

    /** From here on answers are due by these words of the document; those ahead must have asked for some. */
    static void sentence(String number, String told) {
        wantAsked();
        promise = number;
        words = told;
    }

    private static void wantAsked() {
        if (!words.isEmpty() && asked == askedBefore) {
            wrong++;
            System.out.println("promise " + promise + ": nothing was asked by the words: " + words);
        }
        askedBefore = asked;
    }

    static void due(String call, long got, long want) {
        asked++;
        if (got != want) {
            wrong++;
            String by = words.isEmpty() ? "" : " (" + words + ")";
            System.out.println("promise " + promise + by + ": " + call + " answered " + got + ", due is " + want);
        }
    }

    static void finish() {
        wantAsked();
        System.out.println(wrong == 0 ? asked + " answers as due" : wrong + " answers are not as due");
        if (wrong != 0) {
            System.exit(1);
        }
    }

    static void feedText(SnorePlay x, String text) {
        int[] v = new int[(text.length() + 19) / 20 * 5];
        for (int i = 0; i < v.length * 4; i++) {
            v[i / 4] = v[i / 4] << 8 | (i < text.length() ? text.charAt(i) & 255 : 32);
        }
        for (int i = 0; i < v.length; i += 5) {
            x.feed(v[i], v[i + 1], v[i + 2], v[i + 3], v[i + 4]);
        }
    }

    static int tell(SnorePlay x, String text) {
        feedText(x, text);
        return x.house(text.length());
    }

    static SnorePlay of(String text) {
        SnorePlay x = new SnorePlay();
        int lines = tell(x, text);
        if (lines < 1) {
            due("house of " + text, lines, 1);
        }
        return x;
    }

    static void lay(SnorePlay x, int tray, long... v) {
        due("numbers", x.numbers(tray, 3, v.length), 0);
        for (int i = 0; i < v.length; i++) {
            due("write", x.write(tray, i, v[i]), v[i]);
        }
    }

    static void faultOf(String text, int kind, int place) {
        SnorePlay x = of(PAIR);
        due("house of " + text, tell(x, text), -30 - kind);
        due("fault(0) of " + text, x.fault(0), kind);
        due("fault(1) of " + text, x.fault(1), place);
        due("count(1) behind " + text, x.count(1), 2);
        due("count(12) behind " + text, x.count(12), 4);
        due("count(11) behind " + text, x.count(11), 0);
    }

    static void linesOf(String text, int lines) {
        SnorePlay x = new SnorePlay();
        due("house of " + text, tell(x, text), lines);
        due("fault(0) of " + text, x.fault(0), 0);
        due("fault(1) of " + text, x.fault(1), -1);
    }

    /** All that can be counted or asked of the sleepers, to see that it stays. */
    static String state(SnorePlay x) {
        StringBuilder t = new StringBuilder();
        for (int what = 0; what < 13; what++) {
            t.append(x.count(what)).append(' ');
        }
        for (int s = 0; s < x.count(1); s++) {
            t.append(x.sleeper(s, 0)).append(' ').append(x.sleeper(s, 1)).append(' ').append(x.would(s)).append(' ');
        }
        return t.toString();
    }

    static void stays(String what, SnorePlay x, String before) {
        String now = state(x);
        if (!now.equals(before)) {
            System.out.println("was " + before + "\nis  " + now);
        }
        due(what + ": all stays", now.equals(before) ? 1 : 0, 1);
    }
}
