/** Each boundary that the document names of what can be asked of the play to come (promises 17 to 36). */
public final class AskedBoundariesTest extends Asking {
    static final int[] FAR_OUT = {-1, -2, Integer.MIN_VALUE, 100000, 1 << 30, Integer.MAX_VALUE};
    static final String SIX = "house beds 6 sounds 2 acts 1;sleeper bed 0 dream 0;sleeper bed 1 dream 0;sleeper bed 2 dream 0;"
        + "sleeper bed 3 dream 0;sleeper bed 4 dream 0;sleeper bed 5 dream 0;turns 1;";
    // Whoever snores, each sound is one more; the sixth ends an act: 5, 11, 17, 23 beats.
    static final String CLOCK = "house beds 3 sounds 6 acts 4;sleeper bed 0 dream 0;sleeper bed 1 dream 0;sleeper bed 2 dream 0;"
        + "turns 5;says:sound+1;";
    // Three beats in which one snores, one in which nobody does; waking makes it still at once.
    static final String FADING = "house beds 2 sounds 6 acts 1;sleeper bed 0 dream 0;sleeper bed 1 dream 0;says:sound+1;"
        + "answers:3-sound;turns 0;";

    // The one with the greatest number snores; 1 ends it, so that the last of all must be woken.
    static final String GREATEST = "house beds 3 sounds 3 acts 1;sleeper bed 0 dream 0;sleeper bed 1 dream 0;sleeper bed 2 dream 0;"
        + "turns 1;answers:who+1;says:who;";

    static SnorePlay ended() {
        SnorePlay x = of(PAIR);
        due("beats(2)", x.beats(2), 2);
        due("count(7)", x.count(7), 1);
        return x;
    }

    static SnorePlay still() {
        SnorePlay x = of(PAIR);
        due("beat(2)", x.beat(2), -1);
        due("count(7)", x.count(7), 2);
        return x;
    }

    public static void main(String[] args) {
        goes();
        lies();
        round();
        soonest();
        way();
        rows();
        keeps();
        keeping();
        heardOf();
        placing();
        firstOrder();
        fills();
        heard();
        heardBy();
        suspects();
        hushes();
        attempt();
        forces();
        best();
        chance();
        mean();
        nothingDone();
        finish();
    }

    static void goes() {
        sentence("17", "0 it ENDS (or has)");
        due("goes(0)", of(PAIR).goes(0), 0);
        due("goes(1)", of(PAIR).goes(1), 2);
        due("goes(0)", ended().goes(0), 0);
        due("goes(1)", of(CLOCK).goes(1), 23);
        SnorePlay x = of(PAIR);
        x.beat(0);
        due("goes(1)", x.goes(1), 1);
        sentence("17", "1 it is STILL (or gets so)");
        due("goes(0)", of(FADING).goes(0), 1);
        due("goes(0)", still().goes(0), 1);
        due("goes(0)", of(ALONE).goes(0), 1);
        due("goes(0)", new SnorePlay().goes(0), 1);
        sentence("17", "the one in which nobody snores, too");
        due("goes(1)", of(FADING).goes(1), 4);
        due("goes(1)", of(ALONE).goes(1), 1);
        sentence("17", "0: it has, it is");
        due("goes(1)", ended().goes(1), 0);
        due("goes(1)", still().goes(1), 0);
        due("goes(1)", new SnorePlay().goes(1), 0);
        sentence("17", "2 for ever; NONE: for ever");
        due("goes(0)", of(ROUND).goes(0), 2);
        due("goes(1)", of(ROUND).goes(1), -1);
        sentence("17", "-2: what");
        due("goes(2)", of(PAIR).goes(2), -2);
        for (int out : FAR_OUT) {
            due("goes(" + out + ")", of(ROUND).goes(out), -2);
        }
    }

    static void lies() {
        sentence("18", "who snores in the n-th BEAT (1 to 99,999) from now on");
        SnorePlay x = of(ROUND);
        due("lies(1)", x.lies(1), 1);
        due("lies(2)", x.lies(2), 0);
        due("lies(99998)", x.lies(99998), 0);
        due("lies(99999)", x.lies(99999), 1);
        x.beat(0);
        due("lies(1)", x.lies(1), 0);
        due("lies(99999)", x.lies(99999), 0);
        sentence("18", "who snores far on, by a round that isn't 2 long and begins later");
        // 1 first, then 2 3 1 by turns: each answers the one ahead of it.
        x = of("house beds 4 sounds 2 acts 1;sleeper bed 0 dream 0;sleeper bed 1 dream 0;sleeper bed 2 dream 0;sleeper bed 3 dream 0;"
            + "turns 1;answers:if last = 3 and who = 1 then 9 else if who = last + 1 then 9 else 0 end end;");
        for (int n = 1; n <= 40; n++) {
            due("lies(" + n + ")", x.lies(n), (n - 1) % 3 + 1);
        }
        due("lies(99999)", x.lies(99999), 3);
        due("lies(99997)", x.lies(99997), 1);
        sentence("18", "NONE: nobody, there is none");
        x = of(FADING);
        due("lies(3)", x.lies(3), 1);
        due("lies(4)", x.lies(4), -1);
        due("lies(5)", x.lies(5), -1);
        due("lies(99999)", x.lies(99999), -1);
        x = of(PAIR);
        due("lies(2)", x.lies(2), 0);
        due("lies(3)", x.lies(3), -1);
        due("lies(1)", ended().lies(1), -1);
        due("lies(1)", still().lies(1), -1);
        due("lies(1)", of(ALONE).lies(1), -1);
        sentence("18", "-3");
        due("lies(0)", x.lies(0), -3);
        due("lies(100000)", x.lies(100000), -3);
        for (int out : FAR_OUT) {
            due("lies(" + out + ")", x.lies(out), -3);
            due("lies(" + out + ")", ended().lies(out), -3);
        }
    }

    static void round() {
        sentence("19", "what 0: behind how many BEATS all is first as it comes round");
        SnorePlay x = of(ROUND);
        due("round(0)", x.round(0), 1);
        x.beat(0);
        due("round(0)", x.round(0), 0);
        x = of("house beds 4 sounds 2 acts 1;sleeper bed 0 dream 0;sleeper bed 1 dream 0;sleeper bed 2 dream 0;sleeper bed 3 dream 0;"
            + "turns 1;answers:if last = 3 and who = 2 then 9 else if who = last + 1 then 9 else 0 end end;");
        due("round(0)", x.round(0), 2);
        sentence("19", "1: behind how many BEATS it does");
        due("round(1)", x.round(1), 2);
        x.beats(1);
        due("round(0)", x.round(0), 1);
        due("round(1)", x.round(1), 2);
        sentence("19", "all: not only who snores, the SOUND, too");
        x = of("house beds 2 sounds 6 acts 1;sleeper bed 0 dream 1;sleeper bed 1 dream 1;turns 0;says:if sound = 5 then 1 else sound + 1 end;");
        due("round(0)", x.round(0), 1);
        due("round(1)", x.round(1), 10);
        sentence("19", "all: the ACT, too");
        x = of("house beds 2 sounds 3 acts 3;sleeper bed 0 dream 0;sleeper bed 1 dream 0;turns 2;"
            + "says:if act < 2 then 2 else 0 end;");
        due("round(0)", x.round(0), 3);
        due("round(1)", x.round(1), 2);
        sentence("19", "NONE: it isn't for ever");
        for (int what = 0; what < 2; what++) {
            due("round(" + what + ")", of(PAIR).round(what), -1);
            due("round(" + what + ")", of(FADING).round(what), -1);
            due("round(" + what + ")", ended().round(what), -1);
            due("round(" + what + ")", still().round(what), -1);
        }
        sentence("19", "-2: what");
        due("round(2)", of(ROUND).round(2), -2);
        for (int out : FAR_OUT) {
            due("round(" + out + ")", of(ROUND).round(out), -2);
            due("round(" + out + ")", of(PAIR).round(out), -2);
        }
    }

    static void soonest() {
        sentence("20", "The fewest BEATS of a ROW behind which it has ENDED (what 0)");
        due("soonest(0)", of(PAIR).soonest(0), 2);
        due("soonest(0)", of(CLOCK).soonest(0), 23);
        due("soonest(0)", of(NAMES).soonest(0), 1);
        due("soonest(0)", ended().soonest(0), 0);
        sentence("20", "it is STILL (what 1)");
        due("soonest(1)", of(PAIR).soonest(1), 1);
        due("soonest(1)", of(FADING).soonest(1), 1);
        due("soonest(1)", still().soonest(1), 0);
        due("soonest(1)", new SnorePlay().soonest(1), 0);
        sentence("20", "NONE: it can't be");
        due("soonest(0)", of(ROUND).soonest(0), -1);
        due("soonest(1)", of(NAMES).soonest(1), -1);
        due("soonest(0)", still().soonest(0), -1);
        due("soonest(1)", ended().soonest(1), -1);
        due("soonest(0)", new SnorePlay().soonest(0), -1);
        sentence("20", "-2: what");
        due("soonest(2)", of(PAIR).soonest(2), -2);
        for (int out : FAR_OUT) {
            due("soonest(" + out + ")", of(PAIR).soonest(out), -2);
        }
    }

    static void way() {
        sentence("21", "The i-th DEED of it, of like ROWS the first");
        SnorePlay x = of(NAMES);
        due("way(0, 0)", x.way(0, 0), 2);
        x = of(PAIR);
        due("way(1, 0)", x.way(1, 0), 2);
        due("way(0, 0)", x.way(0, 0), 0);
        due("way(0, 1)", x.way(0, 1), 0);
        // 2 ends it, if 0 or 1 snored ahead; 1 goes ahead of it: 0 and 2 woken in turn, or 1 at once.
        x = of("house beds 3 sounds 3 acts 1;sleeper bed 0 dream 0;sleeper bed 1 dream 0;sleeper bed 2 dream 0;turns 2;"
            + "answers:if who = 2 and last = 0 then 0 else 5 - who end;says:who;");
        due("soonest(0)", x.soonest(0), 2);
        due("way(0, 0)", x.way(0, 0), 0);
        due("way(0, 1)", x.way(0, 1), 1);
        // 2 ends each of two acts and can't snore twice: 2, then 1, then 2 with 0 woken.
        SnorePlay twice = of(NAMES.replace("acts 1", "acts 2"));
        due("soonest(0)", twice.soonest(0), 3);
        due("way(0, 0)", twice.way(0, 0), 2);
        due("way(0, 1)", twice.way(0, 1), 0);
        due("way(0, 2)", twice.way(0, 2), 1);
        due("way(0, 0)", of(GREATEST).way(0, 0), 3);
        sentence("21", "NONE: not so many, it can't be");
        due("way(0, 2)", x.way(0, 2), -1);
        due("way(0, MAX)", x.way(0, Integer.MAX_VALUE), -1);
        due("way(0, 23)", of(CLOCK).way(0, 23), -1);
        due("way(0, 22)", of(CLOCK).way(0, 22), 0);
        due("way(0, 0)", of(ROUND).way(0, 0), -1);
        due("way(0, 0)", ended().way(0, 0), -1);
        due("way(1, 0)", ended().way(1, 0), -1);
        due("way(1, 0)", still().way(1, 0), -1);
        sentence("21", "-2; -3: i is below 0");
        due("way(2, 0)", x.way(2, 0), -2);
        due("way(-1, 0)", x.way(-1, 0), -2);
        due("way(2, -1)", x.way(2, -1), -2);
        due("way(0, -1)", x.way(0, -1), -3);
        due("way(1, -1)", of(NAMES).way(1, -1), -3);
        due("way(0, MIN)", x.way(0, Integer.MIN_VALUE), -3);
        for (int out : FAR_OUT) {
            due("way(" + out + ", 0)", x.way(out, 0), -2);
        }
    }

    static void rows() {
        sentence("22", "ROWS of just n BEATS: 0");
        SnorePlay x = of(PAIR);
        due("rows(0, 0)", x.rows(0, 0), 0);
        due("rows(1, 0)", x.rows(1, 0), 0);
        due("rows(2, 0)", x.rows(2, 0), 1);
        due("rows(0, 0)", ended().rows(0, 0), 1);
        due("rows(1, 0)", ended().rows(1, 0), 0);
        due("rows(2, 0)", ended().rows(2, 0), 0);
        due("rows(1, 0)", still().rows(1, 0), 1);
        due("rows(0, 0)", still().rows(0, 0), 0);
        due("rows(2, 0)", still().rows(2, 0), 0);
        sentence("22", "of just n: none goes on behind the end or stillness");
        for (int n = 1; n <= 10; n++) {
            for (int what = 0; what < 3; what++) {
                due("rows(" + what + ", " + n + ")", ended().rows(what, n), 0);
                due("rows(" + what + ", " + n + ")", still().rows(what, n), 0);
            }
        }
        due("rows(0, 3)", x.rows(0, 3), 0);
        due("rows(1, 3)", x.rows(1, 3), 0);
        due("rows(2, 2)", x.rows(2, 2), 0);
        sentence("22", "has ENDED (what 0), is STILL (1), is neither (2)");
        due("rows(0, 1)", x.rows(0, 1), 0);
        due("rows(1, 1)", x.rows(1, 1), 1);
        due("rows(2, 1)", x.rows(2, 1), 2);
        due("rows(0, 2)", x.rows(0, 2), 4);
        due("rows(1, 2)", x.rows(1, 2), 2);
        due("rows(0, 1)", of(NAMES).rows(0, 1), 1);
        due("rows(2, 1)", of(NAMES).rows(2, 1), 3);
        sentence("22", "n to 10");
        due("rows(2, 10)", of(SIX).rows(2, 10), 282475249L);
        due("rows(2, 9)", of(SIX).rows(2, 9), 40353607L);
        due("rows(0, 10)", of(SIX).rows(0, 10), 0);
        sentence("22", "-2; -3");
        due("rows(3, 0)", x.rows(3, 0), -2);
        due("rows(-1, 0)", x.rows(-1, 0), -2);
        due("rows(3, 11)", x.rows(3, 11), -2);
        due("rows(0, 11)", x.rows(0, 11), -3);
        due("rows(0, -1)", x.rows(0, -1), -3);
        for (int out : FAR_OUT) {
            due("rows(" + out + ", 0)", x.rows(out, 0), -2);
            due("rows(2, " + out + ")", x.rows(2, out), -3);
        }
    }

    static void keeps() {
        sentence("23", "The most BEATS of a ROW, behind which it has neither ENDED nor is STILL");
        due("keeps()", of(PAIR).keeps(), 1);
        due("keeps()", of(ALONE).keeps(), 0);
        due("keeps()", of(FADING).keeps(), 3);
        due("keeps()", of(CLOCK).keeps(), 22);
        SnorePlay x = of("house beds 2 sounds 1 acts 1;sleeper bed 0 dream 0;sleeper bed 1 dream 0;");
        due("keeps()", x.keeps(), 0);
        sentence("23", "NONE: for ever");
        due("keeps()", of(ROUND).keeps(), -1);
        due("keeps()", of(NAMES).keeps(), -1);
        sentence("23", "-5: it has, it is");
        due("keeps()", ended().keeps(), -5);
        due("keeps()", still().keeps(), -5);
        due("keeps()", new SnorePlay().keeps(), -5);
    }

    static void keeping() {
        sentence("24", "The DEED of the i-th BEAT of it, of like ROWS the first");
        SnorePlay x = of(CLOCK);
        due("keeping(0)", x.keeping(0), 0);
        due("keeping(21)", x.keeping(21), 0);
        due("keeping(0)", of(FADING).keeping(0), 0);
        due("keeping(2)", of(FADING).keeping(2), 0);
        // Left alone 2 ends it at once; 2 woken, 1 snores, behind whom nobody can: one beat.
        x = of("house beds 3 sounds 3 acts 1;sleeper bed 0 dream 0;sleeper bed 1 dream 0;sleeper bed 2 dream 0;turns 2;says:who;"
            + "answers:if last = 1 then 0 else who end;");
        due("keeps()", x.keeps(), 1);
        due("keeping(0)", x.keeping(0), 3);
        sentence("24", "NONE: not so many");
        due("keeping(1)", x.keeping(1), -1);
        due("keeping(22)", of(CLOCK).keeping(22), -1);
        due("keeping(99)", of(CLOCK).keeping(99), -1);
        due("keeping(3)", of(FADING).keeping(3), -1);
        due("keeping(0)", of(ALONE).keeping(0), -1);
        sentence("24", "for ever: the first each time by which it still can be for ever");
        // 2 would end it; 0 and 1 answer each other only while 2 is woken.
        x = of("house beds 3 sounds 3 acts 1;sleeper bed 0 dream 0;sleeper bed 1 dream 0;sleeper bed 2 dream 0;turns 2;says:who;"
            + "answers:who+1;");
        for (int i : new int[] {0, 1, 2, 50, 98, 99}) {
            due("keeping(" + i + ")", x.keeping(i), 3);
            due("keeping(" + i + ")", of(ROUND).keeping(i), 0);
        }
        // Behind 1, 2 would end it; behind 0, 1 answers.
        x = of("house beds 3 sounds 3 acts 1;sleeper bed 0 dream 0;sleeper bed 1 dream 0;sleeper bed 2 dream 0;turns 2;says:who;"
            + "answers:if who = 2 then if last = 1 then 9 else 1 end else 5 end;");
        for (int i = 0; i < 100; i += 9) {
            due("keeping(" + i + ")", x.keeping(i), i % 2 == 0 ? 0 : 3);
        }
        sentence("24", "-3: i is below 0 or above 99; -5");
        due("keeping(100)", x.keeping(100), -3);
        due("keeping(0)", ended().keeping(0), -5);
        due("keeping(99)", ended().keeping(99), -5);
        due("keeping(0)", still().keeping(0), -5);
        due("keeping(0)", new SnorePlay().keeping(0), -5);
        due("keeping(100)", ended().keeping(100), -3);
        for (int out : FAR_OUT) {
            due("keeping(" + out + ")", x.keeping(out), -3);
            due("keeping(" + out + ")", ended().keeping(out), -3);
        }
    }

    static void heardOf() {
        sentence("25", "Who can come to snore by some ROW (in its BEATS), as bits");
        due("heardOf()", of(NAMES).heardOf(), 7);
        due("heardOf()", of(SIX).heardOf(), 63);
        sentence("25", "in its BEATS: not the one who snored LAST ahead of them");
        due("heardOf()", of("house beds 2 sounds 1 acts 1;sleeper bed 0 dream 0;sleeper bed 1 dream 0;").heardOf(), 2);
        due("heardOf()", of("house beds 2 sounds 1 acts 2;sleeper bed 0 dream 0;sleeper bed 1 dream 0;").heardOf(), 3);
        due("heardOf()", of("house beds 3 sounds 1 acts 1;sleeper bed 0 dream 0;sleeper bed 1 dream 0;sleeper bed 2 dream 0;").heardOf(), 6);
        sentence("25", "by some ROW: who comes only if the last of all is woken, too");
        due("heardOf()", of("house beds 3 sounds 1 acts 1;sleeper bed 0 dream 0;sleeper bed 1 dream 0;sleeper bed 2 dream 0;"
            + "answers:who;").heardOf(), 6);
        sentence("25", "nobody");
        due("heardOf()", of(ALONE).heardOf(), 0);
        due("heardOf()", ended().heardOf(), 0);
        due("heardOf()", still().heardOf(), 0);
        due("heardOf()", new SnorePlay().heardOf(), 0);
        sentence("25", "one who would never be above 0 is never heard of");
        due("heardOf()", of("house beds 3 sounds 2 acts 1;sleeper bed 0 dream 0;sleeper bed 1 dream 0;sleeper bed 2 dream 0;turns 1;"
            + "answers:if who = 2 then 0 else 1 end;").heardOf(), 3);
    }

    static void placing() {
        sentence("26", "how many BEATS (0 by each, if it has ENDED already)");
        SnorePlay x = ended();
        due("placing(0)", x.placing(0), 0);
        due("placing(10)", x.placing(10), 0);
        due("placing(11)", x.placing(11), 1);
        x.change(0, 1);
        due("placing(0)", x.placing(0), 0);
        due("placing(10)", x.placing(10), 0);
        due("placing(11)", x.placing(11), 1);
        sentence("26", "by none, if it is STILL");
        x = still();
        due("placing(0)", x.placing(0), -1);
        due("placing(10)", x.placing(10), -1);
        due("placing(11)", x.placing(11), -1);
        due("placing(0)", new SnorePlay().placing(0), -1);
        sentence("26", "NONE: by none");
        due("placing(0)", of(ROUND).placing(0), -1);
        due("placing(10)", of(ROUND).placing(10), -1);
        due("placing(0)", of(FADING).placing(0), -1);
        due("placing(0)", of(ALONE).placing(0), -1);
        sentence("26", "-2: what (10 and a SLEEPER)");
        x = of(NAMES);
        for (int what : new int[] {1, 2, 9, 13, 14, 16, 20, 110}) {
            due("placing(" + what + ")", x.placing(what), -2);
        }
        for (int out : FAR_OUT) {
            due("placing(" + out + ")", x.placing(out), -2);
        }
        due("placing(12)", of(ROUND).placing(12), -2);
        due("placing(10)", new SnorePlay().placing(10), -2);
        due("placing(15)", of(SIX).placing(15), -1);
        due("placing(16)", of(SIX).placing(16), -2);
    }

    static void firstOrder() {
        sentence("26", "the fewest BEATS till it has ENDED");
        // 5 ends it, and only one next to the one who snored last answers: left alone 1 and 0 go on for ever.
        String text = "house beds 6 sounds 6 acts 1;sleeper bed 0 dream 0;sleeper bed 1 dream 0;sleeper bed 2 dream 0;"
            + "sleeper bed 3 dream 0;sleeper bed 4 dream 0;sleeper bed 5 dream 0;turns 5;says:who;answers:2-far;";
        SnorePlay x = of(text);
        due("goes(0)", x.goes(0), 2);
        due("placing(0)", x.placing(0), 1);
        sentence("26", "of like ones the first order (SLEEPER by SLEEPER its BED, least first)");
        int[] beds = {0, 2, 3, 4, 5, 1};
        for (int s = 0; s < 6; s++) {
            due("placing(" + (10 + s) + ")", x.placing(10 + s), beds[s]);
        }
        sentence("26", "in the BEDS in which they are");
        x = of("house beds 6 sounds 3 acts 1;sleeper bed 5 dream 0;sleeper bed 3 dream 0;sleeper bed 1 dream 0;turns 2;says:who;");
        due("placing(0)", x.placing(0), 1);
        due("placing(10)", x.placing(10), 1);
        due("placing(11)", x.placing(11), 5);
        due("placing(12)", x.placing(12), 3);
        sentence("26", "from now on, and nothing is moved");
        due("sleeper(0, 0)", x.sleeper(0, 0), 5);
        due("count(10)", x.count(10), 0);
        x.beat(0);
        due("count(4)", x.count(4), 1);
        due("placing(0)", x.placing(0), 1);
        due("placing(10)", x.placing(10), 1);
        due("placing(11)", x.placing(11), 5);
        due("placing(12)", x.placing(12), 3);
        x.hush(1);
        due("placing(12)", x.placing(12), 3);
        sentence("26", "the last order can be the only one");
        // 0, 1 and 3: only by 3 1 0 lie 0 and 1 2 from each other, 1 and 2 1.
        x = of(chain(3, new int[] {3, 1, 0}, new int[] {0, 1, 3}));
        due("placing(0)", x.placing(0), 2);
        due("placing(10)", x.placing(10), 3);
        due("placing(11)", x.placing(11), 1);
        due("placing(12)", x.placing(12), 0);
        sentence("26", "one BEAT fewer is fewer");
        // In order 1, then 2; 2 next to 0: at once.
        x = of("house beds 3 sounds 3 acts 1;sleeper bed 0 dream 0;sleeper bed 1 dream 0;sleeper bed 2 dream 0;turns 2;says:who;"
            + "answers:if who = 2 then 11 - far * 2 else 10 - far * 2 end;");
        due("goes(1)", x.goes(1), 2);
        due("placing(0)", x.placing(0), 1);
        due("placing(10)", x.placing(10), 0);
        due("placing(11)", x.placing(11), 2);
        due("placing(12)", x.placing(12), 1);
        anyOrder();
    }

    /** Sleepers who answer one another in turn, but only if they lie as far as in an order; the last one ends it. */
    static String chain(int sleepers, int[] order, int[] beds) {
        StringBuilder t = new StringBuilder("house beds 6 sounds 2 acts 1;");
        for (int s = 0; s < sleepers; s++) {
            t.append("sleeper bed " + beds[s] + " dream 0;");
        }
        t.append("turns 1;says:if who = " + (sleepers - 1) + " then 1 else 0 end;answers:");
        for (int s = 1; s < sleepers; s++) {
            t.append("if last = " + (s - 1) + " and who = " + s + " and far = " + Math.abs(order[s] - order[s - 1]) + " then 1 else ");
        }
        t.append("0").append(" end".repeat(sleepers - 1));
        return t.append(";").toString();
    }

    static void anyOrder() {
        sentence("26", "SLEEPERS in any order in the BEDS in which they are");
        int[] beds = {0, 1, 3, 5};
        for (int at = 0; at < 256; at++) {
            int[] order = {beds[at & 3], beds[at >> 2 & 3], beds[at >> 4 & 3], beds[at >> 6 & 3]};
            if (apart(order)) {
                SnorePlay x = of(chain(4, order, beds));
                int[] first = firstLike(order, beds);
                due("placing(0)", x.placing(0), 3);
                for (int s = 0; s < 4; s++) {
                    due("placing(" + (10 + s) + ")", x.placing(10 + s), first[s]);
                }
            }
        }
    }

    static boolean apart(int[] order) {
        for (int i = 0; i < order.length; i++) {
            for (int j = 0; j < i; j++) {
                if (order[i] == order[j]) {
                    return false;
                }
            }
        }
        return true;
    }

    /** The first order, bed by bed least first, in which neighbours in turn lie as far as in another one. */
    static int[] firstLike(int[] order, int[] beds) {
        for (int a : beds) {
            for (int b : beds) {
                for (int c : beds) {
                    for (int d : beds) {
                        int[] other = {a, b, c, d};
                        boolean like = apart(other);
                        for (int s = 1; s < 4; s++) {
                            like = like && Math.abs(other[s] - other[s - 1]) == Math.abs(order[s] - order[s - 1]);
                        }
                        if (like) {
                            return other;
                        }
                    }
                }
            }
        }
        return order;
    }

    static void fills() {
        sentence("27", "Dreams 0 to 9 with which a SLEEPER would let the play END, LEFT ALONE, as bits");
        SnorePlay x = of(PAIR);
        due("fills(0)", x.fills(0), 682);
        due("fills(1)", x.fills(1), 1023);
        String only = "house beds 2 sounds 2 acts 1;sleeper bed 0 dream 5;sleeper bed 1 dream 5;turns 1;says:if dream = 9 then 1 else 0 end;";
        due("fills(0)", of(only).fills(0), 512);
        due("fills(1)", of(only.replace("dream = 9", "dream = 0")).fills(1), 1);
        due("sleeper(0, 1)", x.sleeper(0, 1), 1);
        sentence("27", "all, if it has ENDED already");
        due("fills(0)", ended().fills(0), 1023);
        due("fills(1)", ended().fills(1), 1023);
        sentence("27", "none, if it is STILL");
        due("fills(0)", still().fills(0), 0);
        due("fills(1)", still().fills(1), 0);
        due("fills(0)", of(ALONE).fills(0), 0);
        sentence("27", "-2");
        due("fills(2)", x.fills(2), -2);
        due("fills(5)", of(SIX).fills(5), 0);
        due("fills(1)", of(SIX).fills(1), 682);
        due("fills(6)", of(SIX).fills(6), -2);
        due("fills(0)", new SnorePlay().fills(0), -2);
        for (int out : FAR_OUT) {
            due("fills(" + out + ")", x.fills(out), -2);
        }
    }

    static void heard() {
        sentence("28", "HEARD in a TRAY (1 to 8 numbers)");
        SnorePlay x = of(SIX);
        lay(x, 0, 0);
        due("heard(0)", x.heard(0), 7);
        lay(x, 0, 0, 0, 0, 0, 0, 0, 0, 0);
        due("heard(0)", x.heard(0), 5764801);
        lay(x, 0, -1, -1, -1, -1, -1, -1, -1, -1);
        due("heard(0)", x.heard(0), 5764801);
        lay(x, 0, 0, 0, 0, 0, 0, 0, 0, 1);
        due("heard(0)", x.heard(0), 0);
        sentence("28", "NONE: not heard, but one was");
        x = of(PAIR);
        lay(x, 0, -1);
        due("heard(0)", x.heard(0), 2);
        lay(x, 0, -1, 1);
        due("heard(0)", x.heard(0), 4);
        lay(x, 0, -1, 0);
        due("heard(0)", x.heard(0), 0);
        sentence("28", "in each BEAT one snores");
        lay(x, 0, -1, -1, -1);
        due("heard(0)", x.heard(0), 0);
        SnorePlay y = of(FADING);
        lay(y, 0, 1, 2, 3);
        due("heard(0)", y.heard(0), 8);
        lay(y, 0, 1, 2, 3, -1);
        due("heard(0)", y.heard(0), 0);
        y = ended();
        lay(y, 0, -1);
        due("heard(0)", y.heard(0), 0);
        y = still();
        lay(y, 0, -1);
        due("heard(0)", y.heard(0), 0);
        sentence("28", "-2: the TRAY; -6");
        due("heard(4)", x.heard(4), -2);
        due("heard(3)", x.heard(3), -6);
        for (int out : FAR_OUT) {
            due("heard(" + out + ")", x.heard(out), -2);
        }
        sentence("28", "-4: not 1 to 8 numbers");
        lay(x, 0);
        due("heard(0)", x.heard(0), -4);
        lay(x, 0, 0, 0, 0, 0, 0, 0, 0, 0, 0);
        due("heard(0)", x.heard(0), -4);
        lay(x, 0, 9, 0, 0, 0, 0, 0, 0, 0, 0);
        due("heard(0)", x.heard(0), -4);
        x.numbers(0, 0, 40);
        due("heard(0)", x.heard(0), -4);
        sentence("28", "-3: one is no SOUND nor NONE");
        for (long v : new long[] {2, 3, -2, 1L << 32, Long.MIN_VALUE, Long.MAX_VALUE, (1L << 32) - 1}) {
            lay(x, 0, v);
            due("heard of " + v, x.heard(0), -3);
            lay(x, 0, 0, 1, -1, 0, 0, 0, 0, v);
            due("heard of " + v, x.heard(0), -3);
        }
        y = new SnorePlay();
        lay(y, 0, 0);
        due("heard(0)", y.heard(0), 0);
        lay(y, 0, 1);
        due("heard(0)", y.heard(0), -3);
    }

    static void heardBy() {
        sentence("29", "The DEED of the i-th BEAT of the first of these");
        SnorePlay x = of(NAMES);
        lay(x, 0, 1, 2);
        due("heardBy(0, 0)", x.heardBy(0, 0), 0);
        due("heardBy(0, 1)", x.heardBy(0, 1), 1);
        lay(x, 0, 2);
        due("heardBy(0, 0)", x.heardBy(0, 0), 2);
        lay(x, 0, 1, 0, 1, 0, 1, 0, 1, 2);
        for (int i = 0; i < 8; i++) {
            due("heardBy(0, " + i + ")", x.heardBy(0, i), i == 7 ? 1 : 0);
        }
        SnorePlay y = of(GREATEST);
        lay(y, 0, 1);
        due("heardBy(0, 0)", y.heardBy(0, 0), 3);
        y = of(GREATEST.replace("turns 1", "turns 0"));
        lay(y, 0, 1, 2, 1);
        due("heard(0)", y.heard(0), 9);
        due("heardBy(0, 0)", y.heardBy(0, 0), 3);
        due("heardBy(0, 1)", y.heardBy(0, 1), 0);
        due("heardBy(0, 2)", y.heardBy(0, 2), 0);
        sentence("29", "NONE: not so many, there are none");
        due("heardBy(0, 8)", x.heardBy(0, 8), -1);
        due("heardBy(0, MAX)", x.heardBy(0, Integer.MAX_VALUE), -1);
        lay(x, 0, 0);
        due("heardBy(0, 0)", x.heardBy(0, 0), -1);
        due("heardBy(0, 1)", x.heardBy(0, 1), -1);
        sentence("29", "as heard(); -3: also i is below 0");
        due("heardBy(0, -1)", x.heardBy(0, -1), -3);
        due("heardBy(0, MIN)", x.heardBy(0, Integer.MIN_VALUE), -3);
        due("heardBy(4, -1)", x.heardBy(4, -1), -2);
        due("heardBy(-1, 0)", x.heardBy(-1, 0), -2);
        due("heardBy(3, -1)", x.heardBy(3, -1), -6);
        lay(x, 0);
        due("heardBy(0, -1)", x.heardBy(0, -1), -4);
        lay(x, 0, 0, 0, 0, 0, 0, 0, 0, 0, 0);
        due("heardBy(0, 0)", x.heardBy(0, 0), -4);
        lay(x, 0, 3);
        due("heardBy(0, 0)", x.heardBy(0, 0), -3);
        due("heardBy(0, 5)", x.heardBy(0, 5), -3);
    }

    static void suspects() {
        sentence("30", "Who snored in the i-th BEAT in some of these, as bits");
        SnorePlay x = of(NAMES);
        lay(x, 0, -1, -1);
        due("suspects(0, 0)", x.suspects(0, 0), 2);
        due("suspects(0, 1)", x.suspects(0, 1), 5);
        lay(x, 0, -1);
        due("suspects(0, 0)", x.suspects(0, 0), 6);
        // What comes later tells of what was ahead: behind 2 there is no beat, and 0 answers 1 alone.
        lay(x, 0, -1, 0);
        due("suspects(0, 0)", x.suspects(0, 0), 2);
        lay(x, 0, -1, -1, -1, -1, -1, -1, -1, -1);
        due("suspects(0, 7)", x.suspects(0, 7), 5);
        SnorePlay y = of(GREATEST);
        lay(y, 0, -1);
        due("suspects(0, 0)", y.suspects(0, 0), 6);
        sentence("30", "in some of these: not of those that another TRAY told of");
        y = of("house beds 3 sounds 4 acts 1;sleeper bed 0 dream 0;sleeper bed 1 dream 0;sleeper bed 2 dream 0;turns 3;says:who;");
        lay(y, 0, -1, -1);
        due("suspects(0, 1)", y.suspects(0, 1), 7);
        lay(y, 1, 1, -1);
        due("suspects(1, 1)", y.suspects(1, 1), 5);
        lay(y, 1, 2, -1);
        due("suspects(1, 1)", y.suspects(1, 1), 3);
        sentence("30", "0: there are none");
        lay(x, 0, 2, 1);
        due("suspects(0, 0)", x.suspects(0, 0), 0);
        due("suspects(0, 1)", x.suspects(0, 1), 0);
        sentence("30", "-7: there is no such BEAT");
        due("suspects(0, 2)", x.suspects(0, 2), -7);
        due("suspects(0, MAX)", x.suspects(0, Integer.MAX_VALUE), -7);
        lay(x, 0, 1);
        due("suspects(0, 1)", x.suspects(0, 1), -7);
        sentence("30", "As heard(); -3: also i is below 0");
        due("suspects(0, -1)", x.suspects(0, -1), -3);
        due("suspects(0, MIN)", x.suspects(0, Integer.MIN_VALUE), -3);
        due("suspects(4, -1)", x.suspects(4, -1), -2);
        due("suspects(-1, 0)", x.suspects(-1, 0), -2);
        due("suspects(3, 9)", x.suspects(3, 9), -6);
        lay(x, 0);
        due("suspects(0, 0)", x.suspects(0, 0), -4);
        lay(x, 0, 0, 0, 0, 0, 0, 0, 0, 0, 0);
        due("suspects(0, 9)", x.suspects(0, 9), -4);
        lay(x, 0, 3);
        due("suspects(0, 1)", x.suspects(0, 1), -3);
    }

    static void hushes() {
        sentence("31", "SAID in a TRAY (1 to 8 numbers): HUSHES 0 to 9, as bits");
        SnorePlay x = of(HUSHED);
        lay(x, 0, 1);
        due("hushes(0)", x.hushes(0), 255);
        lay(x, 0, 1, 0, 1, 0, 1, 0, 1, 0);
        due("hushes(0)", x.hushes(0), 255);
        SnorePlay y = of(ROUND);
        lay(y, 0, 1, 0, 1, 0, 1, 0, 1, 0);
        due("hushes(0)", y.hushes(0), 1023);
        lay(y, 0, 1, 0, 1, 0, 1, 0, 1, 1);
        due("hushes(0)", y.hushes(0), 0);
        y = of("house beds 2 sounds 2 acts 1;sleeper bed 0 dream 0;sleeper bed 1 dream 0;turns 1;hush 4;answers:hush - 8;");
        lay(y, 0, 1);
        due("hushes(0)", y.hushes(0), 512);
        due("count(8)", y.count(8), 4);
        sentence("31", "in one BEAT after another from now on, nobody being WOKEN");
        // Behind 1 comes 0 by hushes 0 to 7, so that nobody says 2, who lies farther.
        lay(x, 0, 1, 2);
        due("hushes(0)", x.hushes(0), 0);
        lay(x, 0, 1, 0);
        due("hushes(0)", x.hushes(0), 255);
        x.beat(0);
        lay(x, 0, 0);
        due("hushes(0)", x.hushes(0), 255);
        lay(x, 0, 1);
        due("hushes(0)", x.hushes(0), 0);
        sentence("31", "none, if it has ENDED or is STILL");
        y = ended();
        lay(y, 0, 0);
        due("hushes(0)", y.hushes(0), 0);
        y = still();
        lay(y, 0, 1);
        due("hushes(0)", y.hushes(0), 0);
        y = of(PAIR);
        lay(y, 0, 1, 0);
        due("hushes(0)", y.hushes(0), 1023);
        lay(y, 0, 1, 0, 1);
        due("hushes(0)", y.hushes(0), 0);
        sentence("31", "-2: the TRAY; -6; -4: not 1 to 8 numbers");
        due("hushes(4)", x.hushes(4), -2);
        due("hushes(3)", x.hushes(3), -6);
        for (int out : FAR_OUT) {
            due("hushes(" + out + ")", x.hushes(out), -2);
        }
        lay(x, 0);
        due("hushes(0)", x.hushes(0), -4);
        lay(x, 0, 0, 0, 0, 0, 0, 0, 0, 0, 7);
        due("hushes(0)", x.hushes(0), -4);
        sentence("31", "-3: one is no SLEEPER");
        for (long v : new long[] {3, -1, 1L << 32, Long.MAX_VALUE, Long.MIN_VALUE}) {
            lay(x, 0, v);
            due("hushes of " + v, x.hushes(0), -3);
            lay(x, 0, 0, 1, 2, 0, 0, 0, 0, v);
            due("hushes of " + v, x.hushes(0), -3);
        }
        lay(x, 0, 2);
        due("hushes(0)", x.hushes(0), 0);
        y = new SnorePlay();
        lay(y, 0, 0);
        due("hushes(0)", y.hushes(0), -3);
    }

    static SnorePlay split(String answers, String says) {
        SnorePlay x = of("house beds 3 sounds 6 acts 1;sleeper bed 0 dream 0;sleeper bed 1 dream 0;sleeper bed 2 dream 0;turns 5;answers:"
            + answers + ";says:" + says + ";");
        lay(x, 0, 2);
        return x;
    }

    static void attempt() {
        String secondHalf = "if who = 2 then 100 else 5 - hush end";
        sentence("32", "the first of 0 and all SLEEPERS: the last of them, too");
        SnorePlay x = split(secondHalf, "0");
        due("hushes(0)", x.hushes(0), 1023);
        due("attempt(0)", x.attempt(0), 3);
        sentence("32", "the greatest number is least: of like ones the first");
        due("attempt(0)", split("if who = 2 then 100 else 0 - 1 end", "0").attempt(0), 0);
        due("attempt(0)", split(secondHalf, "if hush < 5 then 0 else 1 end").attempt(0), 0);
        sentence("32", "with the same SOUND");
        due("attempt(0)", split(secondHalf, "if who = 2 and hush > 5 then 1 else 0 end").attempt(0), 3);
        due("attempt(0)", split(secondHalf, "if who = 2 then hush else 0 end").attempt(0), 0);
        sentence("32", "the same one snores");
        // Woken 3, 1 or 2 answer by the hush, all with one sound: 5 and 5.
        SnorePlay y = of("house beds 4 sounds 2 acts 1;sleeper bed 0 dream 0;sleeper bed 1 dream 0;sleeper bed 2 dream 0;"
            + "sleeper bed 3 dream 0;turns 1;answers:if who = 3 then 9 else if who = 2 then 3 else 7 - hush end end;says:0;");
        lay(y, 0, 3);
        due("hushes(0)", y.hushes(0), 1023);
        due("attempt(0)", y.attempt(0), 4);
        y = of("house beds 4 sounds 3 acts 1;sleeper bed 0 dream 0;sleeper bed 1 dream 0;sleeper bed 2 dream 0;sleeper bed 3 dream 0;"
            + "turns 2;answers:if who = 3 then 9 else if who = 2 then 3 else 7 - hush end end;says:if who = 1 then 1 else 0 end;");
        lay(y, 0, 3);
        due("attempt(0)", y.attempt(0), 4);
        sentence("32", "the first of 0 and all SLEEPERS: the first of them, too");
        y = of("house beds 3 sounds 2 acts 1;sleeper bed 0 dream 0;sleeper bed 1 dream 0;sleeper bed 2 dream 0;turns 1;opens 2 sound 0;"
            + "answers:if who = 0 then 9 else 5 - hush end;says:0;");
        lay(y, 0, 0);
        due("attempt(0)", y.attempt(0), 1);
        sentence("32", "asked again it is the same");
        y = split(secondHalf, "if who = 2 then hush else 0 end");
        for (int i = 0; i < 9; i++) {
            due("attempt(0)", y.attempt(0), 0);
        }
        sentence("32", "or nobody");
        // Left alone 5 and 5; woken 2, 4 of 1 and 6 of nobody.
        due("attempt(0)", split("if who = 2 then 100 else 4 - hush end", "if who = 2 and hush < 5 then 1 else 0 end").attempt(0), 0);
        // Left alone 7 and 3; woken 2, 4 of 1 and 6 of nobody.
        due("attempt(0)", split("if who = 2 then 100 else 4 - hush end", "if who = 2 and hush < 7 then 1 else 0 end").attempt(0), 3);
        sentence("32", "of these HUSHES: not of all");
        // 2 snores by hushes 0 to 3 alone; of these its sound tells 1 and 3, waking it 2 and 2.
        x = split("if who = 2 then 40 - hush * 10 else 2 - hush end", "if who = 2 and hush = 0 then 1 else 0 end");
        due("hushes(0)", x.hushes(0), 15);
        due("attempt(0)", x.attempt(0), 3);
        sentence("32", "NONE: there are none");
        lay(x, 0, 0);
        due("hushes(0)", x.hushes(0), 0);
        due("attempt(0)", x.attempt(0), -1);
        y = ended();
        lay(y, 0, 0);
        due("attempt(0)", y.attempt(0), -1);
        sentence("32", "as hushes()");
        due("attempt(4)", x.attempt(4), -2);
        due("attempt(3)", x.attempt(3), -6);
        for (int out : FAR_OUT) {
            due("attempt(" + out + ")", x.attempt(out), -2);
        }
        lay(x, 0);
        due("attempt(0)", x.attempt(0), -4);
        lay(x, 0, 0, 0, 0, 0, 0, 0, 0, 0, 7);
        due("attempt(0)", x.attempt(0), -4);
        lay(x, 0, 3);
        due("attempt(0)", x.attempt(0), -3);
        lay(x, 0, -1);
        due("attempt(0)", x.attempt(0), -3);
    }

    // Behind 0 come 1 or, if 1 is woken, 2; behind 2 come 1 or 3; behind 1 and 3 come 0 or, if 0 is woken, 2, who ends it
    // there: the first one brings 2, the other one 1 or 3, the first one the end.
    static final String DUEL = "house beds 4 sounds 2 acts 1;sleeper bed 0 dream 0;sleeper bed 1 dream 0;sleeper bed 2 dream 0;"
        + "sleeper bed 3 dream 0;turns 1;says:if who = 2 and not last = 0 then 1 else 0 end;"
        + "answers:if who = 2 then 4 else if who = 3 then if last = 2 then 4 else 0 end else "
        + "if who = 0 and [last = 1 or last = 3] or who = 1 and [last = 0 or last = 2] then 5 else 0 end end end;";

    static void forces() {
        sentence("33", "within how many BEATS, at fewest (0: it has ENDED)");
        due("forces()", ended().forces(), 0);
        due("forces()", of(NAMES).forces(), 1);
        due("forces()", of(CLOCK).forces(), 23);
        due("forces()", of("house beds 3 sounds 1 acts 4;sleeper bed 0 dream 0;sleeper bed 1 dream 0;sleeper bed 2 dream 0;").forces(), 4);
        sentence("33", "the first one first");
        SnorePlay x = of(DUEL);
        x.beat(0);
        due("count(4)", x.count(4), 1);
        due("forces()", x.forces(), 1);
        sentence("33", "whatever the other one does");
        // Left at 1, the other one would let 0 answer, for ever.
        x = of(DUEL);
        due("forces()", x.forces(), 3);
        sentence("33", "NONE: never");
        due("forces()", of(PAIR).forces(), -1);
        due("forces()", of(ROUND).forces(), -1);
        due("forces()", of("house beds 2 sounds 2 acts 1;sleeper bed 0 dream 0;sleeper bed 1 dream 1;turns 1;opens 1 sound 0;").forces(), -1);
        due("forces()", still().forces(), -1);
        due("forces()", of(ALONE).forces(), -1);
        due("forces()", new SnorePlay().forces(), -1);
        sentence("33", "the end within one's own beat counts, if nobody else can stop it ahead");
        x = of(PAIR);
        x.beat(0);
        due("forces()", x.forces(), 1);
    }

    static void best() {
        sentence("34", "The first DEED by which it does within as few");
        due("best()", of(NAMES).best(), 2);
        due("best()", of(CLOCK).best(), 0);
        SnorePlay x = of(DUEL);
        x.beat(0);
        due("best()", x.best(), 1);
        sentence("34", "a DEED behind which the other one could keep it from the end isn't it");
        x = of(DUEL);
        due("soonest(0)", x.soonest(0), 2);
        due("way(0, 0)", x.way(0, 0), 0);
        due("best()", x.best(), 2);
        x.beat(2);
        x.beat(2);
        due("count(4)", x.count(4), 3);
        due("best()", x.best(), 1);
        sentence("34", "NONE: it doesn't, it has");
        due("best()", of(PAIR).best(), -1);
        due("best()", of(ROUND).best(), -1);
        due("best()", still().best(), -1);
        due("best()", ended().best(), -1);
        due("best()", new SnorePlay().best(), -1);
    }

    static void fraction(String call, int above, int below, int wantAbove, int wantBelow) {
        due(call + " above", above, wantAbove);
        due(call + " below", below, wantBelow);
    }

    static void chance() {
        sentence("35", "behind n BEATS (0 to 7): the number above, below, in lowest terms");
        SnorePlay x = of(PAIR);
        fraction("chance(0)", x.chance(0, 0), x.chance(0, 1), 0, 1);
        fraction("chance(1)", x.chance(1, 0), x.chance(1, 1), 0, 1);
        fraction("chance(2)", x.chance(2, 0), x.chance(2, 1), 81, 100);
        fraction("chance(7)", x.chance(7, 0), x.chance(7, 1), 81, 100);
        x = of("house beds 3 sounds 3 acts 1;sleeper bed 0 dream 0;sleeper bed 1 dream 0;sleeper bed 2 dream 0;turns 2;says:who;");
        fraction("chance(1)", x.chance(1, 0), x.chance(1, 1), 1, 10);
        fraction("chance(2)", x.chance(2, 0), x.chance(2, 1), 19, 100);
        sentence("35", "it has ENDED already: 1; it is STILL: 0");
        for (int n = 0; n <= 7; n++) {
            fraction("chance(" + n + ")", ended().chance(n, 0), ended().chance(n, 1), 1, 1);
            fraction("chance(" + n + ")", still().chance(n, 0), still().chance(n, 1), 0, 1);
        }
        sentence("35", "in lot s SLEEPER s can't snore (in others all can)");
        // Six sleepers, 5 ends it: nine of ten lots let it; else 4 snores, behind whom it is 5 again.
        x = of("house beds 6 sounds 6 acts 1;sleeper bed 0 dream 0;sleeper bed 1 dream 0;sleeper bed 2 dream 0;sleeper bed 3 dream 0;"
            + "sleeper bed 4 dream 0;sleeper bed 5 dream 0;turns 5;says:who;answers:who;");
        int below = 1;
        for (int n = 1; n <= 7; n++) {
            below *= 10;
            fraction("chance(" + n + ")", x.chance(n, 0), x.chance(n, 1), below - 1, below);
        }
        // Only one who lies last can answer: it is still by the lot of the other one alone.
        x = of("house beds 2 sounds 1 acts 1;sleeper bed 0 dream 0;sleeper bed 1 dream 0;");
        fraction("chance(1)", x.chance(1, 0), x.chance(1, 1), 9, 10);
        sentence("35", "-2: what; -3: n");
        due("chance(8, 0)", x.chance(8, 0), -3);
        due("chance(-1, 1)", x.chance(-1, 1), -3);
        due("chance(0, 2)", x.chance(0, 2), -2);
        due("chance(8, 2)", x.chance(8, 2), -2);
        for (int out : FAR_OUT) {
            due("chance(" + out + ", 0)", x.chance(out, 0), -3);
            due("chance(0, " + out + ")", x.chance(0, out), -2);
            due("chance(" + out + ", " + out + ")", x.chance(out, out), -2);
        }
    }

    static void mean() {
        sentence("36", "In which ACT it is on the mean behind n BEATS (0 to 7), in lowest terms");
        SnorePlay x = of("house beds 2 sounds 1 acts 4;sleeper bed 0 dream 0;sleeper bed 1 dream 0;");
        fraction("mean(0)", x.mean(0, 0), x.mean(0, 1), 0, 1);
        fraction("mean(1)", x.mean(1, 0), x.mean(1, 1), 9, 10);
        fraction("mean(2)", x.mean(2, 0), x.mean(2, 1), 171, 100);
        // 9000 + 8100 + 7290 + 6561 of 10000.
        sentence("36", "where it stops, if it does ahead");
        for (int n = 4; n <= 7; n++) {
            fraction("mean(" + n + ")", x.mean(n, 0), x.mean(n, 1), 30951, 10000);
        }
        x = of("house beds 3 sounds 1 acts 4;sleeper bed 0 dream 0;sleeper bed 1 dream 0;sleeper bed 2 dream 0;");
        for (int n = 0; n <= 7; n++) {
            fraction("mean(" + n + ")", x.mean(n, 0), x.mean(n, 1), Math.min(n, 4), 1);
        }
        sentence("36", "it has ENDED, it is STILL");
        for (int n = 0; n <= 7; n++) {
            fraction("mean(" + n + ")", ended().mean(n, 0), ended().mean(n, 1), 1, 1);
            fraction("mean(" + n + ")", still().mean(n, 0), still().mean(n, 1), 0, 1);
        }
        x = of("house beds 2 sounds 1 acts 4;sleeper bed 0 dream 0;sleeper bed 1 dream 0;");
        x.beats(3);
        x.beat(1);
        due("count(7)", x.count(7), 2);
        fraction("mean(7)", x.mean(7, 0), x.mean(7, 1), 3, 1);
        sentence("36", "-2; -3");
        due("mean(8, 0)", x.mean(8, 0), -3);
        due("mean(-1, 1)", x.mean(-1, 1), -3);
        due("mean(0, 2)", x.mean(0, 2), -2);
        due("mean(8, 2)", x.mean(8, 2), -2);
        for (int out : FAR_OUT) {
            due("mean(" + out + ", 0)", x.mean(out, 0), -3);
            due("mean(0, " + out + ")", x.mean(0, out), -2);
            due("mean(" + out + ", " + out + ")", x.mean(out, out), -2);
        }
    }

    static void nothingDone() {
        sentence("17 to 36", "what is asked changes nothing");
        for (String text : new String[] {PAIR, ROUND, NAMES, HUSHED, CLOCK, FADING, SIX, ALONE}) {
            SnorePlay x = of(text);
            x.hush(2);
            lay(x, 0, 0, 0);
            String before = state(x);
            for (int i = 0; i < 3; i++) {
                x.goes(i);
                x.lies(i + 1);
                x.round(i);
                x.soonest(i);
                x.way(i, 0);
                x.rows(i, 4);
                x.keeps();
                x.keeping(i);
                x.heardOf();
                x.placing(10 * i);
                x.fills(i);
                x.heard(0);
                x.heardBy(0, i);
                x.suspects(0, i);
                x.hushes(0);
                x.attempt(0);
                x.forces();
                x.best();
                x.chance(i, 0);
                x.mean(i, 1);
            }
            stays("what was asked", x, before);
            due("judge(0, 0)", x.judge(0, 0), text.equals(ALONE) ? 1 : -1);
        }
    }
}
