/** Each boundary that the document names of beats, laws and deeds (promises 5 to 16). */
public final class PlayBoundariesTest extends Asking {
    static final int[] FAR_OUT = {-1, -2, Integer.MIN_VALUE, 100, 1 << 30, Integer.MAX_VALUE};
    static final String SIX = "house beds 6 sounds 2 acts 1;sleeper bed 0 dream 0;sleeper bed 1 dream 0;sleeper bed 2 dream 0;"
        + "sleeper bed 3 dream 0;sleeper bed 4 dream 0;sleeper bed 5 dream 0;turns 1;";

    public static void main(String[] args) {
        sleepers();
        amounts();
        lawValues();
        bounds();
        whoSnores();
        sounds();
        acts();
        stillness();
        afterTheEnd();
        lookedAhead();
        beat();
        beats();
        change();
        dream();
        hush();
        undo();
        undoneOnes();
        deeds();
        judge();
        perform();
        night();
        finish();
    }

    static void sleepers() {
        sentence("5", "Of a SLEEPER: BED, dream");
        SnorePlay x = of(HUSHED);
        due("sleeper(0, 0)", x.sleeper(0, 0), 0);
        due("sleeper(2, 0)", x.sleeper(2, 0), 5);
        due("sleeper(2, 1)", x.sleeper(2, 1), 1);
        sentence("5", "-2");
        due("sleeper(3, 0)", x.sleeper(3, 0), -2);
        due("sleeper(0, 2)", x.sleeper(0, 2), -2);
        for (int out : FAR_OUT) {
            due("sleeper(" + out + ", 0)", x.sleeper(out, 0), -2);
            due("sleeper(0, " + out + ")", x.sleeper(0, out), -2);
        }
        due("sleeper(5, 0)", of(SIX).sleeper(5, 0), 5);
        due("sleeper(6, 0)", of(SIX).sleeper(6, 0), -2);
        due("sleeper(0, 0)", new SnorePlay().sleeper(0, 0), -2);
    }

    static void amounts() {
        sentence("6", "the one who snored LAST, too, FAR 0, so without a law 10");
        SnorePlay x = of(SIX);
        for (int s = 0; s < 6; s++) {
            due("would(" + s + ")", x.would(s), 10 - s);
        }
        x.beats(1);
        due("would(0)", x.would(0), 9);
        due("would(1)", x.would(1), 10);
        due("would(5)", x.would(5), 6);
        x = of("house beds 6 sounds 1 acts 1;sleeper bed 2 dream 4;sleeper bed 5 dream 0;answers:100*far+10*last+dream;");
        due("would(0)", x.would(0), 4);
        due("would(1)", x.would(1), 300);
        sentence("6", "ENDED, STILL or not");
        x = of("house beds 2 sounds 1 acts 4;sleeper bed 0 dream 0;sleeper bed 1 dream 0;answers:10*act+hush+1;");
        for (int act = 0; act < 4; act++) {
            due("would(0)", x.would(0), 10 * act + 1);
            x.beat(0);
        }
        due("count(7)", x.count(7), 1);
        due("would(0)", x.would(0), 41);
        x.hush(9);
        due("would(1)", x.would(1), 50);
        x = of(ALONE);
        x.beat(0);
        due("count(7)", x.count(7), 2);
        due("would(0)", x.would(0), 10);
        sentence("6", "-99000002");
        due("would(1)", x.would(1), -99000002);
        due("would(0)", new SnorePlay().would(0), -99000002);
        due("would(6)", of(SIX).would(6), -99000002);
        for (int out : FAR_OUT) {
            due("would(" + out + ")", x.would(out), -99000002);
        }
        sentence("6", "a number below 0 is no code");
        x = of("house beds 2 sounds 1 acts 1;sleeper bed 0 dream 0;sleeper bed 1 dream 0;answers:0-2;");
        due("would(1)", x.would(1), -2);
    }

    static int lawOf(String law) {
        return of("house beds 6 sounds 6 acts 2;sleeper bed 3 dream 4;sleeper bed 1 dream 5;opens 0 sound 2;hush 3;turns 4;answers:"
            + law + ";").would(1);
    }

    static int soundBy(String law) {
        return of("house beds 6 sounds 6 acts 2;sleeper bed 3 dream 4;sleeper bed 1 dream 5;opens 0 sound 2;hush 3;turns 4;says:"
            + law + ";").by(0, 1);
    }

    static void lawValues() {
        sentence("6", "who: the number of the one who would snore; last: of who snored LAST");
        due("who", lawOf("who"), 1);
        due("last", lawOf("last*10+7"), 7);
        due("who", soundBy("who"), 1);
        due("last", soundBy("last"), 0);
        sentence("6", "sound: the SOUND ahead; act: the ACT");
        due("sound", lawOf("sound"), 2);
        due("act", lawOf("act"), 0);
        due("sound", soundBy("sound"), 2);
        due("act", soundBy("act+5"), 5);
        SnorePlay x = of("house beds 2 sounds 6 acts 3;sleeper bed 0 dream 0;sleeper bed 1 dream 0;turns 4;"
            + "says:if act = 0 then 4 else act + 1 end;answers:1+act*10+sound;");
        due("beat(0)", x.beat(0), 1);
        due("would(0)", x.would(0), 15);
        due("by(0, 1)", x.by(0, 1), 2);
        sentence("6", "far: how many BEDS lie from one to the other (1: next to it)");
        due("far", lawOf("far"), 2);
        due("far", soundBy("far"), 2);
        for (int bed = 0; bed < 6; bed++) {
            for (int other = 0; other < 6; other++) {
                if (bed != other) {
                    x = of("house beds 6 sounds 6 acts 1;sleeper bed " + bed + " dream 0;sleeper bed " + other
                        + " dream 0;answers:far;says:far;");
                    due("would(1)", x.would(1), Math.abs(bed - other));
                    due("by(0, 1)", x.by(0, 1), Math.abs(bed - other));
                }
            }
        }
        sentence("6", "dream: the dream of the one who would; hush: the HUSH");
        due("dream", lawOf("dream"), 5);
        due("hush", lawOf("hush"), 3);
        due("dream", soundBy("dream"), 5);
        due("hush", soundBy("hush"), 3);
        sentence("6", "if tells the one SUM, if the TRUTH holds, else the other one");
        due("if", lawOf("if 1=1 then 2 else 3 end"), 2);
        due("if", lawOf("if 1=2 then 2 else 3 end"), 3);
        due("if", lawOf("1 + if 1=1 then 2 else 3 end"), 3);
        due("if", lawOf("1 + if 1=2 then 2 else 3 end * 5 - 4"), 12);
        due("if", lawOf("if if 1=1 then 2 else 3 end = 2 then if 1=2 then 4 else 5 end else 6 end"), 5);
        due("<", lawOf("if 1<1 then 2 else 3 end"), 3);
        due("<", lawOf("if 0<1 then 2 else 3 end"), 2);
        due(">", lawOf("if 1>1 then 2 else 3 end"), 3);
        due(">", lawOf("if 2>1 then 2 else 3 end"), 2);
        due(">", lawOf("if 1>2 then 2 else 3 end"), 3);
        due("<", lawOf("if 2<1 then 2 else 3 end"), 3);
        due("<", lawOf("if 0-1<0 then 2 else 3 end"), 2);
        due("not", lawOf("if not 1=2 then 2 else 3 end"), 2);
        due("not", lawOf("if not not 1=2 then 2 else 3 end"), 3);
        due("not", lawOf("if not 1=1 then 2 else 3 end"), 3);
        due("not", lawOf("if not 1<2 then 2 else 3 end"), 3);
        due("not", lawOf("if not 2>1 then 2 else 3 end"), 3);
        due("not", lawOf("if not [1=1 and 2=2] then 2 else 3 end"), 3);
        due("not", lawOf("if not [1=1 or 2=2] then 2 else 3 end"), 3);
        String[] truth = {"1=2", "1=1"};
        for (int a = 0; a < 2; a++) {
            for (int b = 0; b < 2; b++) {
                due("and", lawOf("if " + truth[a] + " and " + truth[b] + " then 1 else 0 end"), a & b);
                due("or", lawOf("if " + truth[a] + " or " + truth[b] + " then 1 else 0 end"), a | b);
                for (int c = 0; c < 2; c++) {
                    String three = "if " + truth[a] + " or " + truth[b] + " and " + truth[c] + " then 1 else 0 end";
                    due(three, lawOf(three), a | b & c);
                    three = "if " + truth[a] + " and " + truth[b] + " or " + truth[c] + " then 1 else 0 end";
                    due(three, lawOf(three), a & b | c);
                    three = "if not " + truth[a] + " and [" + truth[b] + " or " + truth[c] + "] then 1 else 0 end";
                    due(three, lawOf(three), (1 - a) & (b | c));
                }
            }
        }
    }

    static void bounds() {
        sentence("6", "Each + is kept to 1,000,000 and -1,000,000");
        due("+", lawOf("999*999+999+999"), 999999);
        due("+", lawOf("999*999+999+999+1"), 1000000);
        due("+", lawOf("999*999+999+999+2"), 1000000);
        due("+", lawOf("999*999+999*999"), 1000000);
        due("+", lawOf("(0-999*999)+(0-999-999-1)"), -1000000);
        due("+", lawOf("(0-999*999)+(0-999-999-2)"), -1000000);
        sentence("6", "Each - is kept to -1,000,000 and 1,000,000");
        due("-", lawOf("0-999*999-999-999"), -999999);
        due("-", lawOf("0-999*999-999-999-1"), -1000000);
        due("-", lawOf("0-999*999-999-999-2"), -1000000);
        due("-", lawOf("999*999-(0-999*999)"), 1000000);
        sentence("6", "Each * is kept from -1,000,000 to 1,000,000");
        due("*", lawOf("(999+1)*(999+1)"), 1000000);
        due("*", lawOf("(999+1)*(999+2)"), 1000000);
        due("*", lawOf("(0-999-1)*(999+1)"), -1000000);
        due("*", lawOf("(0-999-1)*(999+2)"), -1000000);
        due("*", lawOf("(0-999-1)*(0-999-2)"), 1000000);
        due("*", lawOf("(999*999*999)*(999*999*999)"), 1000000);
        due("*", lawOf("(0-999*999*999)*(999*999*999)"), -1000000);
        sentence("6", "Each: what is kept goes on");
        due("each", lawOf("999*999*999-1"), 999999);
        due("each", lawOf("0-999*999*999+1"), -999999);
        due("each", lawOf("999*999+999*999-999*999"), 1999);
        due("each", lawOf("999*999*999*0"), 0);
        sentence("6", "an N is told as it is, * binds more than + and -, like ones from the left");
        due("order", lawOf("2+3*4"), 14);
        due("order", lawOf("2*3+4"), 10);
        due("order", lawOf("9-3-2"), 4);
        due("order", lawOf("9-3+2"), 8);
        due("order", lawOf("(2+3)*4"), 20);
        due("order", lawOf("9-(3-2)"), 8);
    }

    static SnorePlay three(String lines) {
        return of("house beds 3 sounds 6 acts 1;sleeper bed 0 dream 0;sleeper bed 1 dream 0;sleeper bed 2 dream 0;turns 5;" + lines);
    }

    static void whoSnores() {
        sentence("8", "each SLEEPER but the one who snored LAST");
        due("beat(0)", three("answers:if who = last then 99 else who end;").beat(0), 2);
        due("beat(0)", three("opens 2 sound 0;answers:who + 1;").beat(0), 1);
        sentence("8", "without a law: 10 less FAR");
        due("beat(0)", three("").beat(0), 1);
        due("beat(0)", three("opens 2 sound 0;").beat(0), 1);
        sentence("8", "the one who would most");
        due("beat(0)", three("answers:who;").beat(0), 2);
        due("beat(0)", three("answers:9-who;").beat(0), 1);
        due("beat(0)", three("answers:if who = 1 then 999 else 999 + 1 end;").beat(0), 2);
        sentence("8", "of like ones the first");
        SnorePlay x = three("answers:1;");
        due("beat(0)", x.beat(0), 1);
        due("beat(0)", x.beat(0), 0);
        x = three("answers:1;opens 1 sound 0;");
        due("beat(0)", x.beat(0), 0);
        due("beat(3)", x.beat(3), 1);
        sentence("8", "of those who aren't WOKEN in that BEAT");
        x = three("answers:1;");
        due("beat(2)", x.beat(2), 2);
        due("beat(1)", x.beat(1), 1);
        due("beat(0)", x.beat(0), 0);
        sentence("8", "if it is above 0");
        due("beat(0)", three("answers:1;").beat(0), 1);
        due("beat(0)", three("answers:0;").beat(0), -1);
        due("beat(0)", three("answers:0-1;").beat(0), -1);
        due("beat(0)", three("answers:0-999*999*999;").beat(0), -1);
        due("beat(0)", three("answers:who-1;").beat(0), 2);
        due("beat(3)", three("answers:who-1;").beat(3), -1);
        sentence("8", "without a law one far away snores, too");
        x = of("house beds 6 sounds 2 acts 1;sleeper bed 0 dream 1;sleeper bed 5 dream 1;turns 0;");
        due("would(1)", x.would(1), 5);
        due("beat(0)", x.beat(0), 1);
    }

    static void sounds() {
        sentence("8", "the law says: its rest by how many SOUNDS there are (0 at least)");
        for (int sounds = 1; sounds <= 6; sounds++) {
            String head = "house beds 2 sounds " + sounds + " acts 1;sleeper bed 0 dream 0;sleeper bed 1 dream 0;says:";
            for (int v = 0; v <= 13; v++) {
                due("by(0, 1) of " + v, of(head + v + ";").by(0, 1), v % sounds);
            }
            due("by(0, 1)", of(head + "999*999*999;").by(0, 1), 1000000 % sounds);
            sentence("8", "the rest of a number below 0 is 0 or more, too");
            for (int v = 0; v <= 13; v++) {
                due("by(0, 1) of -" + v, of(head + "0-" + v + ";").by(0, 1), (60 - v) % sounds);
            }
            due("by(0, 1)", of(head + "0-999*999*999;").by(0, 1), (1000020 - 1000000) % sounds);
        }
        sentence("8", "without one: the SOUND ahead and the dream, added");
        for (int sound = 0; sound < 6; sound++) {
            for (int dream = 0; dream < 10; dream++) {
                SnorePlay x = of("house beds 2 sounds 6 acts 1;sleeper bed 0 dream 3;sleeper bed 1 dream " + dream
                    + ";opens 0 sound " + sound + ";");
                due("by(0, 1)", x.by(0, 1), (sound + dream) % 6);
            }
        }
    }

    static void acts() {
        sentence("8", "if it is the one that turns, the ACT is 1 more");
        SnorePlay x = of("house beds 2 sounds 3 acts 4;sleeper bed 0 dream 0;sleeper bed 1 dream 0;turns 1;opens 0 sound 1;");
        due("beat(0)", x.beat(0), 1);
        due("count(6)", x.count(6), 1);
        due("beat(0)", x.beat(0), 0);
        due("count(6)", x.count(6), 2);
        x.dream(1, 1);
        due("beat(0)", x.beat(0), 1);
        due("count(5)", x.count(5), 2);
        due("count(6)", x.count(6), 2);
        sentence("8", "When the ACT is as many as there are ACTS, it has ENDED, and there are none either");
        for (int acts = 1; acts <= 4; acts++) {
            x = of("house beds 2 sounds 1 acts " + acts + ";sleeper bed 0 dream 0;sleeper bed 1 dream 0;");
            for (int i = 0; i < acts; i++) {
                due("count(7)", x.count(7), 0);
                due("count(6)", x.count(6), i);
                due("beat(0)", x.beat(0), (i + 1) % 2);
            }
            due("count(6)", x.count(6), acts);
            due("count(7)", x.count(7), 1);
            due("beat(0)", x.beat(0), -12);
            due("count(9)", x.count(9), acts);
        }
    }

    static void stillness() {
        sentence("8", "If nobody snores, the play is STILL (who snored LAST, SOUND, ACT as they were)");
        String text = "house beds 3 sounds 4 acts 3;sleeper bed 0 dream 3;sleeper bed 2 dream 2;turns 3;opens 1 sound 0;answers:5-hush;";
        SnorePlay x = of(text);
        due("beat(0)", x.beat(0), 0);
        due("count(5)", x.count(5), 3);
        due("count(6)", x.count(6), 1);
        due("hush(5)", x.hush(5), 0);
        due("beat(0)", x.beat(0), -1);
        due("count(4)", x.count(4), 0);
        due("count(5)", x.count(5), 3);
        due("count(6)", x.count(6), 1);
        due("count(7)", x.count(7), 2);
        due("count(9)", x.count(9), 1);
        due("count(10)", x.count(10), 3);
        sentence("8", "and there are no more BEATS, whatever is changed then");
        due("hush(0)", x.hush(0), 5);
        due("dream(1, 9)", x.dream(1, 9), 2);
        due("change(0, 1)", x.change(0, 1), 2);
        due("would(1)", x.would(1), 5);
        due("count(7)", x.count(7), 2);
        due("beat(0)", x.beat(0), -12);
        due("beats(5)", x.beats(5), 0);
        due("by(0, 0)", x.by(0, 0), -5);
        due("goes(1)", x.goes(1), 0);
        due("lies(1)", x.lies(1), -1);
        due("soonest(0)", x.soonest(0), -1);
        due("fills(0)", x.fills(0), 0);
        due("placing(0)", x.placing(0), -1);
        due("forces()", x.forces(), -1);
        lay(x, 0, 15, 0);
        due("judge(0, 1)", x.judge(0, 1), 2);
        sentence("8", "one alone has nobody to answer it");
        x = of(ALONE);
        due("count(7)", x.count(7), 0);
        due("beat(0)", x.beat(0), -1);
        due("count(7)", x.count(7), 2);
    }

    static void afterTheEnd() {
        sentence("8", "ENDED, beds, dreams and the HUSH can be changed; it stays ENDED");
        SnorePlay x = of(PAIR);
        x.beats(2);
        due("change(1, 0)", x.change(1, 0), 0);
        due("dream(0, 0)", x.dream(0, 0), 1);
        due("hush(9)", x.hush(9), 0);
        due("count(7)", x.count(7), 1);
        due("count(10)", x.count(10), 4);
        due("beat(0)", x.beat(0), -12);
        due("goes(0)", x.goes(0), 0);
        due("goes(1)", x.goes(1), 0);
    }

    static void lookedAhead() {
        sentence("7", "what 0: who snores (NONE: it is STILL then), 1: the SOUND then, 2: the ACT then");
        SnorePlay x = of("house beds 3 sounds 4 acts 3;sleeper bed 0 dream 3;sleeper bed 2 dream 2;turns 3;opens 1 sound 0;answers:5-hush;");
        String before = state(x);
        due("by(0, 0)", x.by(0, 0), 0);
        due("by(0, 1)", x.by(0, 1), 3);
        due("by(0, 2)", x.by(0, 2), 1);
        due("by(1, 0)", x.by(1, 0), -1);
        due("by(1, 1)", x.by(1, 1), 0);
        due("by(1, 2)", x.by(1, 2), 0);
        due("by(2, 0)", x.by(2, 0), 0);
        stays("by()", x, before);
        x.beat(0);
        due("by(2, 0)", x.by(2, 0), -1);
        due("by(2, 1)", x.by(2, 1), 3);
        due("by(2, 2)", x.by(2, 2), 1);
        sentence("7", "-2: what; -5: the BEAT can't be");
        due("by(0, -1)", x.by(0, -1), -2);
        due("by(0, 3)", x.by(0, 3), -2);
        due("by(3, 0)", x.by(3, 0), -5);
        due("by(9, 0)", x.by(9, 0), -5);
        due("by(10, 0)", x.by(10, 0), -5);
        for (int out : FAR_OUT) {
            due("by(" + out + ", 0)", x.by(out, 0), -5);
            due("by(0, " + out + ")", x.by(0, out), -2);
            due("by(" + out + ", " + out + ")", x.by(out, out), -2);
        }
        due("by(6, 0)", of(SIX).by(6, 0), 1);
        due("by(7, 0)", of(SIX).by(7, 0), -5);
        sentence("7", "-5: it has ENDED, it is STILL");
        x = of(PAIR);
        x.beats(2);
        due("by(0, 0)", x.by(0, 0), -5);
        due("by(0, 3)", x.by(0, 3), -2);
        x = of(ALONE);
        x.beat(0);
        due("by(0, 0)", x.by(0, 0), -5);
        due("by(0, 0)", new SnorePlay().by(0, 0), -5);
    }

    static void beat() {
        sentence("8", "1 to 9: SLEEPER v - 1 is WOKEN, the one who snored LAST, too");
        SnorePlay x = of(SIX);
        due("beat(1)", x.beat(1), 1);
        due("beat(2)", x.beat(2), 0);
        due("beat(2)", x.beat(2), 2);
        due("beat(6)", x.beat(6), 1);
        sentence("8", "-11: no such SLEEPER");
        String before = state(x);
        for (int deed = 7; deed <= 9; deed++) {
            due("beat(" + deed + ")", x.beat(deed), -11);
        }
        due("beat(3)", of(PAIR).beat(3), -11);
        due("beat(2)", of(PAIR).beat(2), -1);
        sentence("8", "-11: no BEAT");
        for (int deed : new int[] {10, 19, 20, 99, 101, 110, 200, 210, 299, 300, -1, Integer.MIN_VALUE, Integer.MAX_VALUE}) {
            due("beat(" + deed + ")", x.beat(deed), -11);
        }
        stays("beat() refused", x, before);
        sentence("8", "-12: it has ENDED or is STILL; of both -11 is told first");
        x = of(PAIR);
        x.beats(2);
        before = state(x);
        due("beat(0)", x.beat(0), -12);
        due("beat(2)", x.beat(2), -12);
        due("beat(3)", x.beat(3), -11);
        due("beat(-1)", x.beat(-1), -11);
        stays("beat() refused", x, before);
        x = of(PAIR);
        x.beat(2);
        due("beat(1)", x.beat(1), -12);
        due("beat(3)", x.beat(3), -11);
        due("beat(0)", new SnorePlay().beat(0), -12);
        due("beat(1)", new SnorePlay().beat(1), -11);
    }

    static void beats() {
        sentence("9", "n at most (1 to 99); -3");
        SnorePlay x = of(ROUND);
        String before = state(x);
        due("beats(0)", x.beats(0), -3);
        due("beats(100)", x.beats(100), -3);
        for (int out : FAR_OUT) {
            due("beats(" + out + ")", x.beats(out), -3);
        }
        stays("beats() refused", x, before);
        due("beats(1)", x.beats(1), 1);
        due("count(9)", x.count(9), 1);
        due("beats(99)", x.beats(99), 99);
        due("count(9)", x.count(9), 100);
        sentence("9", "till it has ENDED: how many in which one snored");
        x = of(PAIR);
        due("beats(99)", x.beats(99), 2);
        due("count(7)", x.count(7), 1);
        x = of(PAIR);
        due("beats(2)", x.beats(2), 2);
        due("count(7)", x.count(7), 1);
        x = of(PAIR);
        due("beats(1)", x.beats(1), 1);
        due("count(7)", x.count(7), 0);
        sentence("9", "or is STILL: how many in which one snored");
        String fading = "house beds 2 sounds 6 acts 1;sleeper bed 0 dream 0;sleeper bed 1 dream 0;says:sound+1;answers:3-sound;turns 0;";
        x = of(fading);
        due("beats(3)", x.beats(3), 3);
        due("count(7)", x.count(7), 0);
        due("beats(1)", x.beats(1), 0);
        due("count(7)", x.count(7), 2);
        due("count(10)", x.count(10), 2);
        x = of(fading);
        due("beats(4)", x.beats(4), 3);
        due("count(7)", x.count(7), 2);
        due("count(9)", x.count(9), 3);
        sentence("9", "if it has or is already 0, and nothing was done");
        before = state(x);
        due("beats(1)", x.beats(1), 0);
        stays("beats()", x, before);
        due("beats(100)", x.beats(100), -3);
        x = of(PAIR);
        x.beats(2);
        before = state(x);
        due("beats(99)", x.beats(99), 0);
        stays("beats()", x, before);
        due("beats(0)", x.beats(0), -3);
        x = new SnorePlay();
        due("beats(1)", x.beats(1), 0);
        due("count(10)", x.count(10), 0);
    }

    static void change() {
        sentence("10", "the BED of the first one then");
        SnorePlay x = of(HUSHED);
        due("change(0, 2)", x.change(0, 2), 5);
        due("change(1, 2)", x.change(1, 2), 0);
        due("sleeper(0, 0)", x.sleeper(0, 0), 5);
        due("sleeper(1, 0)", x.sleeper(1, 0), 0);
        due("sleeper(2, 0)", x.sleeper(2, 0), 2);
        due("count(10)", x.count(10), 2);
        due("change(5, 0)", of(SIX).change(5, 0), 0);
        sentence("10", "dreams, who snored LAST and numbers don't change");
        due("sleeper(0, 1)", x.sleeper(0, 1), 1);
        due("count(4)", x.count(4), 0);
        due("would(0)", x.would(0), 9);
        due("would(2)", x.would(2), 6);
        sentence("10", "-11: no such SLEEPER (both one)");
        String before = state(x);
        for (int s = 0; s < 3; s++) {
            due("change(" + s + ", " + s + ")", x.change(s, s), -11);
        }
        due("change(3, 0)", x.change(3, 0), -11);
        due("change(0, 3)", x.change(0, 3), -11);
        for (int out : FAR_OUT) {
            due("change(" + out + ", 0)", x.change(out, 0), -11);
            due("change(0, " + out + ")", x.change(0, out), -11);
            due("change(" + out + ", " + out + ")", x.change(out, out), -11);
        }
        stays("change() refused", x, before);
        due("change(0, 0)", new SnorePlay().change(0, 0), -11);
        due("change(0, 0)", of(ALONE).change(0, 0), -11);
    }

    static void dream() {
        sentence("11", "the dream it had (0 to 9)");
        SnorePlay x = of(HUSHED);
        due("dream(2, 0)", x.dream(2, 0), 1);
        due("dream(2, 9)", x.dream(2, 9), 0);
        due("dream(2, 9)", x.dream(2, 9), 9);
        due("sleeper(2, 1)", x.sleeper(2, 1), 9);
        due("sleeper(1, 1)", x.sleeper(1, 1), 1);
        due("count(10)", x.count(10), 3);
        sentence("11", "-11");
        String before = state(x);
        due("dream(3, 0)", x.dream(3, 0), -11);
        due("dream(0, 10)", x.dream(0, 10), -11);
        for (int out : FAR_OUT) {
            due("dream(" + out + ", 0)", x.dream(out, 0), -11);
            due("dream(0, " + out + ")", x.dream(0, out), -11);
        }
        stays("dream() refused", x, before);
        due("dream(0, 0)", new SnorePlay().dream(0, 0), -11);
    }

    static void hush() {
        sentence("12", "Another HUSH (0 to 9): what it was");
        SnorePlay x = of(HUSHED);
        due("hush(0)", x.hush(0), 1);
        due("hush(9)", x.hush(9), 0);
        due("hush(9)", x.hush(9), 9);
        due("count(8)", x.count(8), 9);
        due("count(10)", x.count(10), 3);
        due("would(0)", x.would(0), 1);
        due("hush(3)", new SnorePlay().hush(3), 0);
        sentence("12", "-11");
        String before = state(x);
        due("hush(10)", x.hush(10), -11);
        for (int out : FAR_OUT) {
            due("hush(" + out + ")", x.hush(out), -11);
        }
        stays("hush() refused", x, before);
    }

    static void undo() {
        sentence("13", "n calls (1 to 10) are UNDONE: how many still can be");
        for (int n = 1; n <= 10; n++) {
            SnorePlay x = of(HUSHED);
            for (int i = 0; i < 10; i++) {
                x.hush(9 - i);
            }
            due("undo(" + n + ")", x.undo(n), 10 - n);
            due("count(10)", x.count(10), 10 - n);
            due("count(8)", x.count(8), n == 10 ? 1 : n);
        }
        sentence("13", "-3: n, more than can be");
        SnorePlay x = of(HUSHED);
        due("undo(1)", x.undo(1), -3);
        x.hush(4);
        x.hush(5);
        String before = state(x);
        due("undo(0)", x.undo(0), -3);
        due("undo(3)", x.undo(3), -3);
        due("undo(10)", x.undo(10), -3);
        due("undo(11)", x.undo(11), -3);
        for (int out : FAR_OUT) {
            due("undo(" + out + ")", x.undo(out), -3);
        }
        stays("undo() refused", x, before);
        due("undo(2)", x.undo(2), 0);
        due("count(8)", x.count(8), 1);
        sentence("13", "10 at most (eldest are forgotten)");
        x = of(HUSHED);
        for (int i = 1; i <= 25; i++) {
            due("beat(0)", x.hush(i % 10) >= 0 ? 1 : 0, 1);
            due("count(10)", x.count(10), Math.min(i, 10));
        }
        due("undo(11)", x.undo(11), -3);
        due("undo(4)", x.undo(4), 6);
        due("count(8)", x.count(8), 1);
        due("hush(7)", x.hush(7), 1);
        due("undo(7)", x.undo(7), 0);
        due("count(8)", x.count(8), 5);
        due("undo(1)", x.undo(1), -3);
        sentence("13", "behind undoing, calls can be done and UNDONE again");
        x = of(HUSHED);
        x.hush(2);
        x.hush(3);
        x.undo(1);
        x.hush(4);
        due("undo(1)", x.undo(1), 1);
        due("count(8)", x.count(8), 2);
        due("undo(1)", x.undo(1), 0);
        due("count(8)", x.count(8), 1);
    }

    static void undoneOnes() {
        sentence("13", "the play, BEDS, dreams, HUSH, BEATS come back");
        SnorePlay x = of(HUSHED);
        x.beat(0);
        String[] before = new String[6];
        before[0] = state(x);
        x.beat(2);
        before[1] = state(x);
        x.change(2, 0);
        before[2] = state(x);
        x.dream(1, 8);
        before[3] = state(x);
        x.hush(6);
        before[4] = state(x);
        x.beats(3);
        for (int i = 4; i >= 0; i--) {
            due("undo(1)", x.undo(1), i + 1);
            stays("undo()", x, before[i]);
        }
        sentence("13", "what ENDED or is STILL goes on again");
        x = of(PAIR);
        x.beats(1);
        x.beat(0);
        due("count(7)", x.count(7), 1);
        due("undo(1)", x.undo(1), 1);
        due("count(7)", x.count(7), 0);
        due("beat(1)", x.beat(1), -1);
        due("count(7)", x.count(7), 2);
        due("undo(1)", x.undo(1), 1);
        due("count(7)", x.count(7), 0);
        due("beat(0)", x.beat(0), 0);
        sentence("13", "each as a whole");
        x = of(HUSHED);
        String first = state(x);
        x.beats(3);
        due("count(9)", x.count(9), 3);
        due("undo(1)", x.undo(1), 0);
        stays("beats() undone", x, first);
        lay(x, 0, 0, 15, 102, 217, 2);
        due("perform(0)", x.perform(0), 5);
        due("count(10)", x.count(10), 1);
        due("undo(1)", x.undo(1), 0);
        stays("perform() undone", x, first);
        due("night(7, 40)", x.night(7, 40) > 1 ? 1 : 0, 1);
        due("count(10)", x.count(10), 1);
        due("undo(1)", x.undo(1), 0);
        stays("night() undone", x, first);
        sentence("13", "Calls that did some: others are none of them");
        x = of(PAIR);
        x.hush(1);
        x.numbers(0, 0, 1);
        x.write(0, 0, 9);
        x.perform(0);
        x.judge(0, 2);
        x.lists(0, 0);
        x.image(0);
        x.feed(0, 0, 0, 0, 0);
        x.house(20);
        x.beat(9);
        x.beats(0);
        x.goes(0);
        x.way(0, 0);
        x.placing(0);
        x.fills(0);
        due("count(10)", x.count(10), 1);
        sentence("13", "trays and THE TAPE stay as they are");
        x = of(PAIR);
        x.hush(1);
        x.numbers(0, 0, 3);
        x.feed(0, 0, 0, 0, 0);
        due("undo(1)", x.undo(1), 0);
        due("write(0, 2, 1)", x.write(0, 2, 1), 1);
        due("count(11)", x.count(11), 20);
    }

    /** Why a deed can't be, from the document's list, with three sleepers. */
    static int whyNot(int v, boolean goesOn) {
        if (v >= 0 && v <= 9) {
            return v > 3 ? 1 : goesOn ? 0 : 2;
        }
        if (v >= 10 && v <= 19) {
            return 0;
        }
        if (v >= 100 && v <= 199) {
            return (v - 100) / 10 < 3 && v % 10 < 3 && (v - 100) / 10 != v % 10 ? 0 : 1;
        }
        return v >= 200 && v <= 229 ? 0 : 1;
    }

    static void deeds() {
        sentence("14", "DEEDS: 0, 1 to 9, 10 to 19, 100 to 199, 200 to 299; others: 1");
        SnorePlay x = new SnorePlay();
        for (int v = -3; v <= 312; v++) {
            if ((v + 3) % 60 == 0) {
                x = of(NAMES);
                x.numbers(0, 1, 1);
            }
            x.write(0, 0, v);
            due("judge of " + v, x.judge(0, 0), whyNot(v, true) == 0 ? -1 : 0);
            due("why of " + v, x.judge(0, 1), whyNot(v, true));
        }
        sentence("14", "why: 1 no such SLEEPER ahead of 2 it has ENDED or is STILL (a BEAT)");
        for (int v = -3; v <= 312; v++) {
            if ((v + 3) % 60 == 0) {
                x = of(NAMES);
                x.numbers(0, 1, 1);
                due("beat(2)", x.beat(2), 2);
            }
            x.write(0, 0, v);
            due("judge of " + v, x.judge(0, 0), whyNot(v, false) == 0 ? -1 : 0);
            due("why of " + v, x.judge(0, 1), whyNot(v, false));
        }
        sentence("14", "others: numbers of 64 bits that would be a DEED if they were cut");
        x = of(NAMES);
        for (long v : new long[] {1L << 32, (1L << 32) + 10, (5L << 32) + 102, 1L << 63, Long.MAX_VALUE, (1L << 40) + 210}) {
            lay(x, 1, v);
            due("judge of " + v, x.judge(1, 0), 0);
            due("why of " + v, x.judge(1, 1), 1);
            due("perform of " + v, x.perform(1), 0);
        }
        sentence("15", "10 to 19: HUSH v - 10");
        for (int v = 10; v <= 19; v++) {
            x = of(NAMES);
            lay(x, 0, v);
            due("perform of " + v, x.perform(0), 1);
            due("count(8)", x.count(8), v - 10);
        }
        sentence("15", "100 to 199: SLEEPERS (v - 100) by 10 and v modulo 10 CHANGE BEDS");
        x = of(NAMES);
        lay(x, 0, 120, 121);
        due("perform", x.perform(0), 2);
        due("sleeper(0, 0)", x.sleeper(0, 0), 2);
        due("sleeper(1, 0)", x.sleeper(1, 0), 0);
        due("sleeper(2, 0)", x.sleeper(2, 0), 1);
        sentence("15", "200 to 299: SLEEPER (v - 200) by 10 DREAMS v modulo 10");
        x = of(SIX);
        lay(x, 0, 200, 219, 258, 259);
        due("perform", x.perform(0), 4);
        due("sleeper(0, 1)", x.sleeper(0, 1), 0);
        due("sleeper(1, 1)", x.sleeper(1, 1), 9);
        due("sleeper(5, 1)", x.sleeper(5, 1), 9);
        lay(x, 0, 260);
        due("perform", x.perform(0), 0);
        lay(x, 0, 6, 155, 154);
        due("perform", x.perform(0), 1);
        lay(x, 0, 154, 7);
        due("perform", x.perform(0), 1);
        due("sleeper(5, 0)", x.sleeper(5, 0), 4);
    }

    static void judge() {
        sentence("14", "the first place that can't be (NONE), why (0)");
        SnorePlay x = of(NAMES);
        lay(x, 0, 0, 10, 4, 99, 5);
        due("judge(0, 0)", x.judge(0, 0), 2);
        due("judge(0, 1)", x.judge(0, 1), 1);
        lay(x, 0, 99);
        due("judge(0, 0)", x.judge(0, 0), 0);
        lay(x, 0, 2, 15, 0);
        due("judge(0, 0)", x.judge(0, 0), 2);
        due("judge(0, 1)", x.judge(0, 1), 2);
        lay(x, 0, 0, 0, 0);
        due("judge(0, 0)", x.judge(0, 0), -1);
        due("judge(0, 1)", x.judge(0, 1), 0);
        sentence("14", "a TRAY of no numbers, a TRAY of 40");
        lay(x, 0);
        due("judge(0, 0)", x.judge(0, 0), -1);
        due("judge(0, 1)", x.judge(0, 1), 0);
        due("judge(0, 2)", x.judge(0, 2), 0);
        due("judge(0, 3)", x.judge(0, 3), 0);
        x.numbers(0, 2, 40);
        due("judge(0, 0)", x.judge(0, 0), -1);
        x.write(0, 39, 77);
        due("judge(0, 0)", x.judge(0, 0), 39);
        sentence("14", "who snored LAST then; 10 times the ACT, and the SOUND then");
        lay(x, 0, 0, 0);
        due("judge(0, 2)", x.judge(0, 2), 0);
        due("judge(0, 3)", x.judge(0, 3), 0);
        lay(x, 0, 2);
        due("judge(0, 2)", x.judge(0, 2), 2);
        due("judge(0, 3)", x.judge(0, 3), 12);
        lay(x, 0, 0, 99, 1);
        due("judge(0, 2)", x.judge(0, 2), 1);
        due("judge(0, 3)", x.judge(0, 3), 1);
        SnorePlay far = of("house beds 2 sounds 6 acts 4;sleeper bed 0 dream 0;sleeper bed 1 dream 0;turns 5;says:5;");
        lay(far, 0, 0, 0, 0, 0, 0);
        due("judge(0, 0)", far.judge(0, 0), 4);
        due("judge(0, 3)", far.judge(0, 3), 45);
        sentence("14", "NONE without SLEEPERS");
        SnorePlay none = new SnorePlay();
        lay(none, 0, 15);
        due("judge(0, 0)", none.judge(0, 0), -1);
        due("judge(0, 2)", none.judge(0, 2), -1);
        due("judge(0, 3)", none.judge(0, 3), 0);
        sentence("14", "judged as if done: nothing is");
        String before = state(x);
        lay(x, 0, 0, 15, 102, 215);
        for (int what = 0; what < 4; what++) {
            x.judge(0, what);
        }
        stays("judge()", x, before);
        sentence("14", "-2: the TRAY, what; -6");
        for (int out : FAR_OUT) {
            due("judge(" + out + ", 0)", x.judge(out, 0), -2);
            due("judge(0, " + out + ")", x.judge(0, out), -2);
            due("judge(1, " + out + ")", x.judge(1, out), -2);
        }
        due("judge(4, 0)", x.judge(4, 0), -2);
        due("judge(0, 4)", x.judge(0, 4), -2);
        due("judge(3, 4)", x.judge(3, 4), -2);
        due("judge(3, 0)", x.judge(3, 0), -6);
        due("judge(1, 3)", x.judge(1, 3), -6);
    }

    static void perform() {
        sentence("15", "They are done, till one can't be: how many");
        SnorePlay x = of(NAMES);
        lay(x, 0, 0, 17, 4, 18);
        due("perform(0)", x.perform(0), 2);
        due("count(4)", x.count(4), 1);
        due("count(8)", x.count(8), 7);
        due("count(9)", x.count(9), 1);
        due("count(10)", x.count(10), 1);
        lay(x, 0, 1, 18, 0, 19);
        due("perform(0)", x.perform(0), 2);
        due("count(7)", x.count(7), 1);
        due("count(8)", x.count(8), 8);
        sentence("15", "a BEAT in which nobody snores is done, too");
        x = of(PAIR);
        lay(x, 0, 2, 0);
        due("perform(0)", x.perform(0), 1);
        due("count(7)", x.count(7), 2);
        due("count(9)", x.count(9), 0);
        due("undo(1)", x.undo(1), 0);
        due("count(7)", x.count(7), 0);
        sentence("15", "none is done: nothing can be UNDONE");
        String before = state(x);
        lay(x, 0, 3, 11);
        due("perform(0)", x.perform(0), 0);
        lay(x, 0);
        due("perform(0)", x.perform(0), 0);
        stays("perform()", x, before);
        sentence("15", "all of 40");
        x = of(ROUND);
        x.numbers(0, 0, 40);
        due("perform(0)", x.perform(0), 40);
        due("count(9)", x.count(9), 40);
        due("undo(1)", x.undo(1), 0);
        due("count(9)", x.count(9), 0);
        sentence("15", "-2; -6");
        due("perform(4)", x.perform(4), -2);
        due("perform(3)", x.perform(3), -6);
        for (int out : FAR_OUT) {
            due("perform(" + out + ")", x.perform(out), -2);
        }
    }

    static int drawn;

    static int draw() {
        drawn = 1103515245 * drawn + 12345;
        return drawn >>> 16;
    }

    /** A night told by single calls, and what each answers. */
    static int toldNight(SnorePlay told, int seed, int times) {
        drawn = seed;
        int could = 0;
        for (int i = 0; i < times; i++) {
            int answer;
            int sort = draw() % 6;
            if (sort < 2) {
                answer = told.beat(0);
            } else if (sort == 2) {
                answer = told.beat(draw() % 7);
            } else if (sort == 3) {
                answer = told.hush(draw() % 10);
            } else if (sort == 4) {
                int s = draw() % 6;
                answer = told.change(s, draw() % 6);
            } else {
                int s = draw() % 6;
                answer = told.dream(s, draw() % 10);
            }
            could += answer < -1 ? 0 : 1;
        }
        return could;
    }

    static void night() {
        sentence("16", "A NIGHT by a SEED (x, an int; a DRAW): how many could be");
        int[] seeds = {0, 1, -1, 2, 65536, 1 << 30, Integer.MIN_VALUE, Integer.MAX_VALUE, 12345, -987654321};
        String[] texts = {SIX, HUSHED, NAMES, PAIR, ALONE, "house beds 3 sounds 2 acts 2;"};
        for (String text : texts) {
            for (int seed : seeds) {
                for (int times : new int[] {1, 2, 7, 40}) {
                    SnorePlay x = of(text);
                    SnorePlay told = of(text);
                    due("night(" + seed + ", " + times + ")", x.night(seed, times), toldNight(told, seed, times));
                    for (int what = 0; what < 10; what++) {
                        due("count(" + what + ")", x.count(what), told.count(what));
                    }
                    for (int s = 0; s < x.count(1); s++) {
                        due("sleeper(" + s + ", 0)", x.sleeper(s, 0), told.sleeper(s, 0));
                        due("sleeper(" + s + ", 1)", x.sleeper(s, 1), told.sleeper(s, 1));
                    }
                }
            }
        }
        sentence("16", "none could be: nothing can be UNDONE");
        int none = 0;
        for (int seed = 0; seed < 60; seed++) {
            SnorePlay x = new SnorePlay();
            int could = x.night(seed, 1);
            due("count(10)", x.count(10), could);
            none += could == 0 ? 1 : 0;
        }
        due("some nights in which none could be", none > 0 ? 1 : 0, 1);
        sentence("16", "-3: how many times (1 to 40)");
        SnorePlay x = of(HUSHED);
        String before = state(x);
        due("night(5, 0)", x.night(5, 0), -3);
        due("night(5, 41)", x.night(5, 41), -3);
        for (int out : FAR_OUT) {
            due("night(5, " + out + ")", x.night(5, out), -3);
        }
        stays("night() refused", x, before);
        due("night(5, 1)", x.night(5, 1) >= 0 ? 1 : 0, 1);
        due("night(5, 40)", x.night(5, 40) >= 0 ? 1 : 0, 1);
    }
}
