/**
 * What is worked out for one question must not outlast what changes it: each object is asked all, then something
 * is done, then it is asked all again; another object, on which the same was done but which was never asked
 * before, must answer the same.
 */
public final class AskedAgainTest extends Asking {
    static final String[] TEXTS = {
        "house beds 6 sounds 6 acts 4;sleeper bed 5 dream 1;sleeper bed 4 dream 2;sleeper bed 3 dream 3;sleeper bed 2 dream 4;"
            + "sleeper bed 1 dream 5;sleeper bed 0 dream 6;turns 3;hush 2;answers:12-far*hush+who-last;says:sound*5+dream+who-act;",
        "house beds 6 sounds 5 acts 3;sleeper bed 0 dream 9;sleeper bed 5 dream 8;sleeper bed 2 dream 1;opens 2 sound 4;"
            + "answers:if far > 3 and not hush = 4 then 0-1 else dream + far end;says:0-who*dream-hush;",
        "house beds 4 sounds 3 acts 2;sleeper bed 0 dream 1;sleeper bed 1 dream 2;sleeper bed 3 dream 1;turns 0;hush 2;",
        "house beds 3 sounds 3 acts 1;sleeper bed 0 dream 1;sleeper bed 1 dream 1;sleeper bed 2 dream 1;turns 2;says:who;",
        "house beds 1 sounds 1 acts 1;sleeper bed 0 dream 0;",
        "house beds 6 sounds 6 acts 4;"};

    interface Deed {
        void on(SnorePlay x);
    }

    public static void main(String[] args) {
        for (String text : TEXTS) {
            behindDeeds(text);
            behindUndoing(text);
            behindRestoring(text);
            behindHouses(text);
        }
        behindBoth();
        manyLaws();
        finish();
    }

    static String answers(SnorePlay x) {
        StringBuilder t = new StringBuilder();
        for (int what = 0; what < 2; what++) {
            t.append(" goes ").append(x.goes(what)).append(" round ").append(x.round(what));
            t.append(" soonest ").append(x.soonest(what)).append(" way ").append(x.way(what, 0)).append(' ').append(x.way(what, 1));
        }
        for (int n : new int[] {1, 2, 3, 50}) {
            t.append(" lies ").append(x.lies(n));
        }
        for (int what = 0; what < 3; what++) {
            t.append(" rows ").append(x.rows(what, 1)).append(' ').append(x.rows(what, 5));
        }
        t.append(" keeps ").append(x.keeps()).append(' ').append(x.keeping(0)).append(' ').append(x.keeping(1));
        t.append(" heardOf ").append(x.heardOf()).append(" placing ").append(x.placing(0));
        for (int s = 0; s < 6; s++) {
            t.append(' ').append(x.placing(10 + s)).append(" fills ").append(x.fills(s)).append(" would ").append(x.would(s));
        }
        t.append(" forces ").append(x.forces()).append(' ').append(x.best());
        t.append(" chance ").append(x.chance(5, 0)).append(" mean ").append(x.mean(5, 0));
        x.numbers(3, 0, 3);
        t.append(" lists ").append(x.lists(3, 1)).append(" heard ").append(x.heard(3));
        for (int i = 0; i < 3; i++) {
            t.append(' ').append(x.heardBy(3, i)).append(' ').append(x.suspects(3, i));
        }
        x.lists(3, 0);
        t.append(" hushes ").append(x.hushes(3)).append(" attempt ").append(x.attempt(3));
        for (int deed = 0; deed < 4; deed++) {
            t.append(" by ").append(x.by(deed, 0)).append(' ').append(x.by(deed, 1)).append(' ').append(x.by(deed, 2));
        }
        return t.toString();
    }

    static void alike(String what, SnorePlay askedBefore, SnorePlay never) {
        String got = answers(askedBefore);
        String want = answers(never);
        due("alike behind " + what, got.equals(want) ? 1 : 0, 1);
        if (!got.equals(want)) {
            System.out.println("  asked before: " + got + "\n  never:        " + want);
        }
    }

    static void done(String text, String what, Deed deed) {
        SnorePlay x = of(text);
        answers(x);
        deed.on(x);
        SnorePlay y = of(text);
        deed.on(y);
        alike(what + " on " + text, x, y);
    }

    static void behindDeeds(String text) {
        sentence("10, 11, 12, 8, 9", "from now on: behind a change");
        for (int s = 0; s < 6; s++) {
            int who = s;
            for (int o = 0; o < s; o++) {
                int other = o;
                done(text, "change(" + s + ", " + o + ")", x -> x.change(who, other));
            }
            for (int n = 0; n < 10; n++) {
                int told = n;
                done(text, "dream(" + s + ", " + n + ")", x -> x.dream(who, told));
            }
            done(text, "beat(" + s + ")", x -> x.beat(who));
        }
        for (int n = 0; n < 10; n++) {
            int told = n;
            done(text, "hush(" + n + ")", x -> x.hush(told));
            done(text, "beats(" + n + ")", x -> x.beats(told));
            done(text, "night(" + n + ", 9)", x -> x.night(told, 9));
        }
    }

    static void behindUndoing(String text) {
        sentence("13", "behind what was UNDONE all is as it was");
        for (int seed = 0; seed < 12; seed++) {
            SnorePlay x = of(text);
            answers(x);
            due("night", x.night(seed, 12) >= 0 ? 1 : 0, 1);
            answers(x);
            if (x.count(10) > 0) {
                x.undo(1);
            }
            alike("undo(1) on " + text, x, of(text));
        }
    }

    static void behindRestoring(String text) {
        sentence("41", "behind what was restored all is as it was");
        for (String other : TEXTS) {
            SnorePlay x = of(text);
            x.beats(1);
            x.image(0);
            answers(x);
            tell(x, other);
            answers(x);
            x.restore(0);
            SnorePlay y = of(text);
            y.beats(1);
            alike("restore(0) on " + text, x, y);
        }
    }

    static void behindHouses(String text) {
        sentence("3", "behind another house nothing is left of the one ahead");
        for (String other : TEXTS) {
            SnorePlay x = of(other);
            answers(x);
            tell(x, text);
            alike("house " + text, x, of(text));
        }
        SnorePlay x = new SnorePlay();
        answers(x);
        tell(x, text);
        alike("first house " + text, x, of(text));
        // The same beds, but other laws; the same by a dream less.
        String lawless = text.replaceAll("answers:[^;]*;", "").replaceAll("says:[^;]*;", "");
        x = of(lawless);
        answers(x);
        tell(x, lawless + "answers:dream-1;says:dream;");
        alike("laws on " + lawless, x, of(lawless + "answers:dream-1;says:dream;"));
        answers(x);
        tell(x, lawless + "answers:who+1;says:who+hush;");
        alike("other laws on " + lawless, x, of(lawless + "answers:who+1;says:who+hush;"));
        x = of(lawless + "answers:who+1;says:who+hush;");
        answers(x);
        String less = lawless + "answers:dream*who;says:last;";
        for (int dream = 1; dream <= 9; dream++) {
            less = less.replace("dream " + dream, "dream " + (dream - 1));
        }
        tell(x, less);
        alike("a dream less on " + lawless, x, of(less));
    }

    static void behindBoth() {
        sentence("6", "a dream less and a hush more are other than they were");
        SnorePlay x = of("house beds 2 sounds 6 acts 1;sleeper bed 0 dream 5;sleeper bed 1 dream 5;answers:dream*10+hush;says:dream*2+hush;turns 0;");
        due("would(1)", x.would(1), 50);
        due("by(0, 1)", x.by(0, 1), 4);
        x.dream(1, 4);
        x.hush(1);
        due("would(1)", x.would(1), 41);
        due("by(0, 1)", x.by(0, 1), 3);
        x = of(TEXTS[0]);
        x.dream(5, 7);
        x.hush(0);
        answers(x);
        x.dream(5, 6);
        x.hush(8);
        SnorePlay y = of(TEXTS[0]);
        y.hush(8);
        alike("dream(5, 6) and hush(8)", x, y);
    }

    static void manyLaws() {
        sentence("3", "long laws one behind the other");
        SnorePlay x = new SnorePlay();
        for (int i = 0; i < 10; i++) {
            StringBuilder t = new StringBuilder("house beds 1 sounds 1 acts 1;sleeper bed 0 dream 0;answers:" + i);
            while (t.length() + 3 <= 900) {
                t.append("+1");
            }
            int ones = (t.length() - 60) / 2;
            due("house", tell(x, t.append(';').toString()), 3);
            due("would(0)", x.would(0), i + ones);
        }
    }
}
