/** Each boundary that the document names of trays, images and counts (promises 37 to 42). */
public final class TrayBoundariesTest extends Asking {
    static final int[] FAR_OUT = {-1, -2, Integer.MIN_VALUE, 100, 1 << 30, Integer.MAX_VALUE};

    public static void main(String[] args) {
        numbers();
        write();
        lists();
        image();
        restore();
        heldInImages();
        notInImages();
        count();
        constants();
        refusedOnes();
        finish();
    }

    static void numbers() {
        sentence("37", "TRAYS 0 to 3 are MISSING at first");
        SnorePlay x = of(PAIR);
        for (int tray = 0; tray < 4; tray++) {
            due("write(" + tray + ", 0, 0)", x.write(tray, 0, 0), -6);
        }
        sentence("37", "a TRAY has n numbers of a sort: 0 to 40");
        for (int tray = 0; tray < 4; tray++) {
            for (int n : new int[] {0, 1, 39, 40}) {
                due("numbers(" + tray + ", 3, " + n + ")", x.numbers(tray, tray, n), 0);
                due("write(" + tray + ", " + n + ", 5)", x.write(tray, n, 5), -7);
                due("write(" + tray + ", " + (n - 1) + ", 5)", x.write(tray, n - 1, 5), n == 0 ? -7 : 5);
            }
        }
        sentence("37", "all 0 (in place of another one)");
        // 77 can't be: judging finds the first that isn't 0.
        x = of(ROUND);
        lay(x, 0, 77, 77, 77);
        due("judge(0, 0)", x.judge(0, 0), 0);
        due("numbers(0, 3, 3)", x.numbers(0, 3, 3), 0);
        due("judge(0, 0)", x.judge(0, 0), -1);
        lay(x, 0, 0, 0, 0, 77);
        due("numbers(0, 3, 2)", x.numbers(0, 3, 2), 0);
        due("numbers(0, 3, 40)", x.numbers(0, 3, 40), 0);
        due("judge(0, 0)", x.judge(0, 0), -1);
        due("perform(0)", x.perform(0), 40);
        sentence("37", "in place of another one: of another sort, of fewer");
        due("numbers(0, 3, 5)", x.numbers(0, 3, 5), 0);
        due("write(0, 4, 300)", x.write(0, 4, 300), 300);
        due("numbers(0, 0, 4)", x.numbers(0, 0, 4), 0);
        due("write(0, 4, 1)", x.write(0, 4, 1), -7);
        due("write(0, 3, 300)", x.write(0, 3, 300), 44);
        sentence("37", "other TRAYS stay");
        lay(x, 1, 77);
        x.numbers(0, 1, 1);
        x.numbers(2, 1, 1);
        due("judge(1, 0)", x.judge(1, 0), 0);
        due("perform(3)", x.perform(3), -6);
        sentence("37", "-2: no such TRAY, sort");
        due("numbers(4, 0, 0)", x.numbers(4, 0, 0), -2);
        due("numbers(0, 4, 0)", x.numbers(0, 4, 0), -2);
        due("numbers(4, 0, 41)", x.numbers(4, 0, 41), -2);
        due("numbers(0, 4, 41)", x.numbers(0, 4, 41), -2);
        for (int out : FAR_OUT) {
            due("numbers(" + out + ", 0, 0)", x.numbers(out, 0, 0), -2);
            due("numbers(0, " + out + ", 0)", x.numbers(0, out, 0), -2);
        }
        sentence("37", "-3, and the TRAY stays: n is below 0 or above 40");
        x.numbers(0, 1, 3);
        x.write(0, 2, 77);
        due("numbers(0, 3, 41)", x.numbers(0, 3, 41), -3);
        for (int out : FAR_OUT) {
            due("numbers(0, 3, " + out + ")", x.numbers(0, 3, out), -3);
        }
        due("judge(0, 0)", x.judge(0, 0), 2);
        due("write(0, 3, 0)", x.write(0, 3, 0), -7);
        due("write(0, 0, 65536)", x.write(0, 0, 65536), 0);
        due("numbers(3, 0, 41)", x.numbers(3, 0, 41), -3);
        due("write(3, 0, 0)", x.write(3, 0, 0), -6);
    }

    static void write() {
        sentence("38", "cut to its sort: 8 bits (sort 0)");
        SnorePlay x = of(PAIR);
        x.numbers(0, 0, 1);
        cut(x, 0, new long[] {127, 128, 255, 256, -128, -129, 1L << 40, Long.MIN_VALUE, -1}, new long[] {127, -128, -1, 0, -128, 127, 0, 0, -1});
        sentence("38", "16 (1)");
        x.numbers(1, 1, 1);
        cut(x, 1, new long[] {32767, 32768, 65535, 65536, -32768, -32769, Long.MAX_VALUE}, new long[] {32767, -32768, -1, 0, -32768, 32767, -1});
        sentence("38", "32 (2)");
        x.numbers(2, 2, 1);
        cut(x, 2, new long[] {Integer.MAX_VALUE, 1L << 31, (1L << 32) - 1, 1L << 32, Integer.MIN_VALUE, Integer.MIN_VALUE - 1L},
            new long[] {Integer.MAX_VALUE, Integer.MIN_VALUE, -1, 0, Integer.MIN_VALUE, Integer.MAX_VALUE});
        sentence("38", "64 (3)");
        x.numbers(3, 3, 1);
        cut(x, 3, new long[] {Long.MAX_VALUE, Long.MIN_VALUE, 1L << 32, -1, 0}, new long[] {Long.MAX_VALUE, Long.MIN_VALUE, 1L << 32, -1, 0});
        sentence("38", "as it is there: what was cut is what is judged");
        x.numbers(0, 0, 1);
        due("write(0, 0, 256)", x.write(0, 0, 256), 0);
        due("judge(0, 0)", x.judge(0, 0), -1);
        x.numbers(0, 1, 1);
        due("write(0, 0, 256)", x.write(0, 0, 256), 256);
        due("judge(0, 0)", x.judge(0, 0), 0);
        x.numbers(0, 0, 1);
        due("write(0, 0, 255)", x.write(0, 0, 255), -1);
        due("heard(0)", x.heard(0), 2);
        sentence("38", "Number i of a TRAY: the others stay");
        x.numbers(0, 2, 40);
        due("write(0, 0, 15)", x.write(0, 0, 15), 15);
        due("write(0, 39, 77)", x.write(0, 39, 77), 77);
        due("write(0, 1, 16)", x.write(0, 1, 16), 16);
        due("write(0, 2, 77)", x.write(0, 2, 77), 77);
        due("judge(0, 0)", x.judge(0, 0), 2);
        due("write(0, 2, 18)", x.write(0, 2, 18), 18);
        due("perform(0)", x.perform(0), 5);
        due("count(8)", x.count(8), 8);
        sentence("38", "-2: no such TRAY; -6; -7");
        x = of(PAIR);
        x.numbers(0, 0, 2);
        due("write(4, 0, 1)", x.write(4, 0, 1), -2);
        due("write(4, 9, 1)", x.write(4, 9, 1), -2);
        due("write(1, 9, 1)", x.write(1, 9, 1), -6);
        due("write(0, 2, 1)", x.write(0, 2, 1), -7);
        for (int out : FAR_OUT) {
            due("write(" + out + ", 0, 1)", x.write(out, 0, 1), -2);
            due("write(0, " + out + ", 1)", x.write(0, out, 1), -7);
            due("write(3, " + out + ", 1)", x.write(3, out, 1), -6);
        }
        x.numbers(0, 0, 0);
        due("write(0, 0, 1)", x.write(0, 0, 1), -7);
    }

    static void cut(SnorePlay x, int tray, long[] told, long[] there) {
        for (int i = 0; i < told.length; i++) {
            due("write(" + tray + ", 0, " + told[i] + ")", x.write(tray, 0, told[i]), there[i]);
        }
    }

    static void lists() {
        sentence("39", "Who snores (what 0)");
        // 1 and 0 by turns; as hushes they fit all.
        SnorePlay x = of(ROUND);
        lay(x, 0, 9, 9, 9);
        due("lists(0, 0)", x.lists(0, 0), 3);
        due("hushes(0)", x.hushes(0), 1023);
        sentence("39", "the SOUNDS (what 1)");
        x = of(PAIR);
        lay(x, 0, 9, 9);
        due("lists(0, 1)", x.lists(0, 1), 2);
        due("heard(0)", x.heard(0), 4);
        due("heardBy(0, 0)", x.heardBy(0, 0), 0);
        sentence("39", "as far as it has places");
        x = of(ROUND);
        for (int n : new int[] {0, 1, 8, 39, 40}) {
            x.numbers(1, 0, n);
            due("lists(1, 0)", x.lists(1, 0), n);
            due("lists(1, 1)", x.lists(1, 1), n);
        }
        sentence("39", "and one snores: the places behind stay as they are");
        x = of(PAIR);
        lay(x, 0, 9, 9, 77, 0);
        due("lists(0, 0)", x.lists(0, 0), 2);
        due("judge(0, 0)", x.judge(0, 0), 2);
        x = of("house beds 2 sounds 6 acts 1;sleeper bed 0 dream 0;sleeper bed 1 dream 0;says:sound+1;answers:3-sound;turns 0;");
        lay(x, 0, 99, 99, 99, 99, 99);
        due("lists(0, 1)", x.lists(0, 1), 3);
        lay(x, 1, 1, 2, 3);
        due("heard(1)", x.heard(1), 8);
        sentence("39", "none, if it has ENDED or is STILL");
        x.beats(4);
        due("lists(0, 0)", x.lists(0, 0), 0);
        x = of(PAIR);
        x.beats(2);
        x.numbers(0, 0, 2);
        due("lists(0, 0)", x.lists(0, 0), 0);
        x = of(ALONE);
        x.numbers(0, 0, 2);
        due("lists(0, 0)", x.lists(0, 0), 0);
        x = new SnorePlay();
        x.numbers(0, 0, 2);
        due("lists(0, 1)", x.lists(0, 1), 0);
        sentence("39", "in BEATS LEFT ALONE: none is done");
        x = of(NAMES);
        x.numbers(0, 0, 40);
        String before = state(x);
        due("lists(0, 0)", x.lists(0, 0), 40);
        stays("lists()", x, before);
        sentence("39", "-2: the TRAY, what; -6");
        due("lists(4, 0)", x.lists(4, 0), -2);
        due("lists(0, 2)", x.lists(0, 2), -2);
        due("lists(3, 2)", x.lists(3, 2), -2);
        due("lists(3, 1)", x.lists(3, 1), -6);
        for (int out : FAR_OUT) {
            due("lists(" + out + ", 0)", x.lists(out, 0), -2);
            due("lists(0, " + out + ")", x.lists(0, out), -2);
            due("lists(3, " + out + ")", x.lists(3, out), -2);
        }
    }

    static void image() {
        sentence("40", "IMAGES 0 to 1");
        SnorePlay x = of(PAIR);
        due("image(0)", x.image(0), 0);
        due("image(1)", x.image(1), 0);
        sentence("40", "-2");
        due("image(2)", x.image(2), -2);
        for (int out : FAR_OUT) {
            due("image(" + out + ")", x.image(out), -2);
        }
        sentence("40", "An IMAGE is made: all stays, what can be UNDONE, too");
        x = of(HUSHED);
        x.beat(0);
        x.hush(4);
        String before = state(x);
        due("image(0)", x.image(0), 0);
        stays("image()", x, before);
        due("undo(2)", x.undo(2), 0);
        due("count(8)", x.count(8), 1);
        sentence("40", "a later one stands in place of it");
        x.hush(7);
        due("image(0)", x.image(0), 0);
        x.hush(3);
        due("restore(0)", x.restore(0), 0);
        due("count(8)", x.count(8), 7);
        due("count(9)", x.count(9), 0);
    }

    static void restore() {
        sentence("41", "none at first; -5: none was made");
        SnorePlay x = of(PAIR);
        String before = state(x);
        due("restore(0)", x.restore(0), -5);
        due("restore(1)", x.restore(1), -5);
        stays("restore() refused", x, before);
        x.image(1);
        due("restore(0)", x.restore(0), -5);
        due("restore(1)", x.restore(1), 0);
        sentence("41", "-2");
        due("restore(2)", x.restore(2), -2);
        for (int out : FAR_OUT) {
            due("restore(" + out + ")", x.restore(out), -2);
        }
        sentence("41", "nothing can be UNDONE behind");
        x = of(PAIR);
        x.hush(1);
        x.hush(2);
        x.image(0);
        due("restore(0)", x.restore(0), 0);
        due("count(10)", x.count(10), 0);
        due("undo(1)", x.undo(1), -3);
        due("hush(3)", x.hush(3), 2);
        due("count(10)", x.count(10), 1);
        due("undo(1)", x.undo(1), 0);
        due("count(8)", x.count(8), 2);
        sentence("41", "it can be restored again");
        x.beats(2);
        due("restore(0)", x.restore(0), 0);
        due("count(7)", x.count(7), 0);
        due("count(9)", x.count(9), 0);
        due("count(8)", x.count(8), 2);
    }

    static void heldInImages() {
        sentence("41", "All that is in an IMAGE is as it was: BEDS, dreams, HUSH, BEATS, the play");
        SnorePlay x = of(HUSHED);
        x.beats(3);
        x.change(0, 2);
        x.dream(1, 6);
        x.hush(2);
        x.image(0);
        due("restore(0)", x.restore(0), 0);
        String before = state(x);
        x.image(0);
        x.beats(99);
        x.change(1, 2);
        x.dream(0, 9);
        x.hush(8);
        due("restore(0)", x.restore(0), 0);
        stays("restore()", x, before);
        sentence("41", "that it is STILL, that it has ENDED");
        x = of(PAIR);
        x.image(0);
        x.beat(2);
        x.image(1);
        due("restore(0)", x.restore(0), 0);
        due("count(7)", x.count(7), 0);
        due("restore(1)", x.restore(1), 0);
        due("count(7)", x.count(7), 2);
        due("restore(0)", x.restore(0), 0);
        x.beats(2);
        x.image(0);
        tell(x, PAIR);
        due("restore(0)", x.restore(0), 0);
        due("count(7)", x.count(7), 1);
        due("count(9)", x.count(9), 2);
        sentence("41", "THE HOUSE: its beds, sounds, acts, laws, what turns, lines");
        x = of(HUSHED);
        x.image(0);
        due("house", tell(x, "house beds 2 sounds 2 acts 1;sleeper bed 0 dream 0;sleeper bed 1 dream 0;answers:3;says:1;turns 1;"), 6);
        x.image(1);
        due("restore(0)", x.restore(0), 0);
        due("count(0)", x.count(0), 6);
        due("count(1)", x.count(1), 3);
        due("count(2)", x.count(2), 3);
        due("count(3)", x.count(3), 4);
        due("count(12)", x.count(12), 7);
        due("would(1)", x.would(1), 7);
        due("by(0, 1)", x.by(0, 1), 1);
        due("by(0, 2)", x.by(0, 2), 0);
        due("goes(0)", x.goes(0), 0);
        due("restore(1)", x.restore(1), 0);
        due("count(12)", x.count(12), 6);
        due("would(1)", x.would(1), 3);
        due("by(0, 1)", x.by(0, 1), 1);
        due("by(0, 2)", x.by(0, 2), 1);
        due("goes(1)", x.goes(1), 1);
        sentence("41", "the house of a new object, too");
        x = new SnorePlay();
        x.image(0);
        tell(x, HUSHED);
        due("restore(0)", x.restore(0), 0);
        due("count(0)", x.count(0), 1);
        due("count(1)", x.count(1), 0);
        due("count(4)", x.count(4), -1);
        due("count(7)", x.count(7), 2);
        due("count(12)", x.count(12), 0);
    }

    static void notInImages() {
        sentence("41", "TRAYS, THE TAPE and the latest FAULT aren't in it");
        SnorePlay x = of(PAIR);
        x.image(0);
        lay(x, 0, 77);
        tell(x, "?");
        x.feed(0, 0, 0, 0, 0);
        due("restore(0)", x.restore(0), 0);
        due("judge(0, 0)", x.judge(0, 0), 0);
        due("count(11)", x.count(11), 20);
        due("fault(0)", x.fault(0), 1);
        sentence("41", "images outlast house()");
        due("house", x.house(0), -32);
        due("house", tell(x, ALONE), 2);
        due("restore(0)", x.restore(0), 0);
        due("count(1)", x.count(1), 2);
    }

    static void count() {
        sentence("42", "4 who snored LAST (NONE without SLEEPERS)");
        SnorePlay x = of("house beds 5 sounds 4 acts 3;");
        due("count(4)", x.count(4), -1);
        due("count(5)", x.count(5), 0);
        due("count(7)", x.count(7), 2);
        sentence("42", "0 BEDS, 1 SLEEPERS, 2 SOUNDS, 3 ACTS");
        due("count(0)", x.count(0), 5);
        due("count(1)", x.count(1), 0);
        due("count(2)", x.count(2), 4);
        due("count(3)", x.count(3), 3);
        sentence("42", "7: 0 it goes on, 1 it has ENDED, 2 it is STILL");
        x = of(PAIR);
        due("count(7)", x.count(7), 0);
        x.beat(0);
        due("count(7)", x.count(7), 0);
        x.beat(0);
        due("count(7)", x.count(7), 1);
        x.undo(1);
        x.beat(1);
        due("count(7)", x.count(7), 2);
        sentence("42", "9 BEATS in which one snored");
        due("count(9)", x.count(9), 1);
        sentence("42", "10 calls that can be UNDONE, 11 bytes on THE TAPE, 12 LINES");
        due("count(10)", x.count(10), 2);
        x.feed(1, 2, 3, 4, 5);
        due("count(11)", x.count(11), 20);
        due("count(12)", x.count(12), 4);
        sentence("42", "8 HUSH");
        x.hush(9);
        due("count(8)", x.count(8), 9);
        sentence("42", "NONE for others");
        due("count(13)", x.count(13), -1);
        for (int out : FAR_OUT) {
            due("count(" + out + ")", x.count(out), -1);
        }
    }

    static void constants() {
        sentence("42", "NONE = -1");
        due("NONE", SnorePlay.NONE, -1);
    }

    static void refusedOnes() {
        sentence("Terms", "Refused calls answer by a code and change nothing");
        SnorePlay x = of(HUSHED);
        x.beats(2);
        x.hush(3);
        x.feed(0, 0, 0, 0, 0);
        lay(x, 0, 77);
        String before = state(x);
        due("house", x.house(21), -3);
        due("beat", x.beat(7), -11);
        due("beats", x.beats(0), -3);
        due("change", x.change(1, 1), -11);
        due("dream", x.dream(0, 10), -11);
        due("hush", x.hush(10), -11);
        due("undo", x.undo(3), -3);
        due("perform", x.perform(1), -6);
        due("night", x.night(1, 0), -3);
        due("lists", x.lists(0, 2), -2);
        due("numbers", x.numbers(0, 0, 41), -3);
        due("write", x.write(0, 1, 0), -7);
        due("image", x.image(2), -2);
        due("restore", x.restore(0), -5);
        stays("all these", x, before);
        due("judge(0, 0)", x.judge(0, 0), 0);
        sentence("Terms", "objects are apart");
        SnorePlay y = of(PAIR);
        x.beats(1);
        due("count(0)", y.count(0), 2);
        due("count(9)", y.count(9), 0);
        due("count(0)", x.count(0), 6);
    }
}
