/** Each promise of the document by itself: ordinary inputs, the edges that it names, and wrong inputs. */
public final class PromisesTest extends Asking {
    public static void main(String[] args) {
        houses();
        faults();
        laws();
        sleepers();
        beatsNow();
        deeds();
        undone();
        judged();
        nights();
        leftAlone();
        woken();
        kept();
        placed();
        heardOnes();
        said();
        byTurns();
        chances();
        traysAndImages();
        counts();
        finish();
    }

    static void houses() {
        promise = "1";
        SnorePlay x = new SnorePlay();
        int[] first = {1, 0, 1, 1, -1, 0, 0, 2, 0, 0, 0, 0, 0};
        for (int what = 0; what < first.length; what++) {
            due("count(" + what + ")", x.count(what), first[what]);
        }
        due("beat(0)", x.beat(0), -12);

        promise = "2";
        for (int i = 1; i <= 45; i++) {
            due("feed", x.feed(0, 0, 0, 0, 0), 20 * i);
        }
        due("feed", x.feed(0, 0, 0, 0, 0), -5);
        due("count(11)", x.count(11), 900);
        due("house(900)", x.house(900), -31);
        due("count(11)", x.count(11), 0);
        due("feed", x.feed(1, 2, 3, 4, 5), 20);
        // The highest byte of each int first: 'h', 'o', 'u', 's'; what is wrong is behind it.
        x = new SnorePlay();
        due("feed", x.feed('h' << 24 | 'o' << 16 | 'u' << 8 | 's', 'e' << 24 | 1, 0, 0, 0), 20);
        due("house(8)", x.house(8), -31);
        due("fault(1)", x.fault(1), 5);

        promise = "3";
        x = new SnorePlay();
        feedText(x, PAIR);
        int taped = x.count(11);
        due("house(-1)", x.house(-1), -3);
        due("house(more)", x.house(taped + 1), -3);
        due("count(11)", x.count(11), taped);
        due("house", x.house(PAIR.length()), 4);
        due("count(11)", x.count(11), 0);
        due("count(7)", x.count(7), 0);
        due("beat(2)", x.beat(2), -1);
        due("count(7)", x.count(7), 2);
        due("count(10)", x.count(10), 1);
        due("house", tell(x, PAIR), 4);
        due("count(7)", x.count(7), 0);
        due("count(10)", x.count(10), 0);
        due("count(9)", x.count(9), 0);
        due("house without sleepers", tell(x, "house beds 6 sounds 6 acts 4;"), 1);
        due("count(7)", x.count(7), 2);
        due("count(4)", x.count(4), -1);
        due("house(0)", x.house(0), -32);
        due("fault(1)", x.fault(1), 0);
        due("count(0)", x.count(0), 6);
        // All stays with a fault.
        x = of(PAIR);
        x.beat(0);
        due("house", tell(x, "house beds 9;"), -33);
        due("count(4)", x.count(4), 1);
        due("count(9)", x.count(9), 1);
        due("count(10)", x.count(10), 1);
        // Later ones strike.
        x = of("house beds 2 sounds 3 acts 2;sleeper bed 1 dream 1;opens 0 sound 1;sleeper bed 0 dream 2;"
            + "opens 1 sound 2;turns 1;turns 2;hush 3;hush 9;answers:1;answers:dream*10;says:0;says:2;");
        due("count(12)", x.count(12), 13);
        due("count(4)", x.count(4), 1);
        due("count(5)", x.count(5), 2);
        due("count(8)", x.count(8), 9);
        due("would(0)", x.would(0), 10);
        due("by(0, 1)", x.by(0, 1), 2);
        due("by(0, 2)", x.by(0, 2), 1);
        // Blanks are 10 and 32, and tokens go on as long as they can.
        due("house", tell(x, "\n house\nbeds1sounds 2acts\n 3;sleeper bed 000dream 07 ;\n"), 2);
        due("sleeper(0, 1)", x.sleeper(0, 1), 7);
        due("count(3)", x.count(3), 3);
    }

    static void faults() {
        promise = "4";
        SnorePlay x = new SnorePlay();
        due("fault(0)", x.fault(0), 0);
        due("fault(1)", x.fault(1), -1);
        due("fault(2)", x.fault(2), -1);
        due("fault(-1)", x.fault(-1), -1);
        due("house(1)", x.house(1), -3);
        due("fault(0)", x.fault(0), 0);
        tell(x, "hose;");
        due("fault(0)", x.fault(0), 2);
        due("house(1)", x.house(1), -3);
        due("fault(0)", x.fault(0), 2);
        tell(x, PAIR);
        due("fault(0)", x.fault(0), 0);
        due("fault(1)", x.fault(1), -1);
        String head = "house beds 2 sounds 2 acts 1;";
        faultOf("", 2, 0);
        faultOf("  ", 2, 2);
        faultOf(head + "House", 1, 29);
        faultOf(head + "\t", 1, 29);
        faultOf(head + "lazy;", 2, 29);
        faultOf(head + "zzz a;", 2, 29);
        faultOf(head + "turnsz 0;", 2, 29);
        faultOf(head + "`", 1, 29);
        faultOf(head + "{", 1, 29);
        faultOf(head + "/", 1, 29);
        faultOf(head + ",", 1, 29);
        faultOf(head + (char) 233, 1, 29);
        faultOf(head + " turns 0000;", 1, 36);
        faultOf(head + " turns 1 1;", 2, 38);
        faultOf(head + " turns 2;", 3, 36);
        faultOf(head + " turns 999;", 3, 36);
        faultOf(head + head, 2, 29);
        faultOf("beds 2;", 2, 0);
        faultOf("house beds 2 sounds 2 acts 0;", 3, 27);
        faultOf("house beds 2 sounds 0 acts 1;", 3, 20);
        faultOf("house beds sounds;", 2, 11);
        faultOf("house beds 2 sounds 2 acts 1;;", 2, 29);
        faultOf(head + "sleeper bed 0 dream 1", 2, 50);
        faultOf(head + "sleeper bed 0 dream 1  ", 2, 52);
        faultOf(head + "opens 0 sound 0;", 3, 35);
        faultOf(head + "sleeper bed 0 dream 0;opens 1 sound 0;", 3, 57);
        faultOf(head + "sleeper bed 1 dream 0;sleeper bed 1 dream 0;", 3, 63);
        faultOf("house beds 1 sounds 2 acts 1;sleeper bed 0 dream 0;sleeper 0", 4, 51);
        faultOf(head + "answers:1 + ;", 2, 41);
        faultOf(head + "answers:1 1;", 2, 39);
        faultOf(head + "answers:1000;", 1, 37);
        faultOf(head + "answers:-1;", 2, 37);
        faultOf(head + "answers:[1=1];", 2, 37);
        faultOf(head + "answers:if (1=1) then 1 else 1 end;", 2, 42);
        faultOf(head + "answers:if 1=1=1 then 1 else 1 end;", 2, 43);
        faultOf(head + "answers:if 1=1 then 1 end;", 2, 51);
        faultOf(head + "answers:if 1=1 then 1 else 1;", 2, 57);
        faultOf(head + "answers:beds;", 2, 37);
        // Six within one another can stand, the seventh can't.
        due("house", tell(x, head + "says:((((((1))))));"), 2);
        faultOf(head + "says:(((((((1)))))));", 4, 40);
        due("house", tell(x, head + "says:if not [ not (1) = ((1)) ] then 1 else 2 end;"), 2);
        due("house", tell(x, head + "says:if not not not not not 1 = 1 then 1 else 2 end;"), 2);
        faultOf(head + "says:if not not not not not not 1 = 1 then 1 else 2 end;", 4, 57);
        due("house", tell(x, head + "says:if not not not not not 1 = 1 and not not not not not 1=1 then 1 else 2 end;"), 2);
        faultOf(head + "says:((((((if", 4, 40);
        faultOf(head + "says:((((((1 if", 2, 42);
    }

    static int lawOf(String law) {
        SnorePlay x = of("house beds 4 sounds 6 acts 2;sleeper bed 3 dream 4;sleeper bed 1 dream 7;opens 0 sound 5;hush 8;answers:"
            + law + ";");
        return x.would(1);
    }

    static void laws() {
        promise = "6";
        due("names", lawOf("who"), 1);
        due("names", lawOf("last"), 0);
        due("names", lawOf("sound"), 5);
        due("names", lawOf("far"), 2);
        due("names", lawOf("act"), 0);
        due("names", lawOf("dream"), 7);
        due("names", lawOf("hush"), 8);
        due("sums", lawOf("1 - 2 - 3"), -4);
        due("sums", lawOf("1 - (2 - 3)"), 2);
        due("sums", lawOf("1 + 2 * 3 - 4 * 5"), -13);
        due("bounds", lawOf("999 * 999 * 999"), 1000000);
        due("bounds", lawOf("999 * 999 + 999 + 999"), 999999);
        due("bounds", lawOf("999 * 999 + 999 + 999 + 1"), 1000000);
        due("bounds", lawOf("999 * 999 + 999 + 999 + 2"), 1000000);
        due("bounds", lawOf("0 - 999 * 999 * 999"), -1000000);
        due("bounds", lawOf("999 * 999 * 999 * 0"), 0);
        due("bounds", lawOf("999 * 999 + 999 * 999 - 999 * 999"), 1000000 - 998001);
        due("bounds", lawOf("(0 - 999 * 999) * 999 + 1"), -999999);
        due("choices", lawOf("if 1 = 1 then 5 else 6 end"), 5);
        due("choices", lawOf("if 1 < 1 then 5 else 6 end + 1"), 7);
        due("choices", lawOf("if 2 > 1 then 5 else 6 end * 2"), 10);
        due("choices", lawOf("if not 1 = 1 or 1 = 1 then 5 else 6 end"), 5);
        due("choices", lawOf("if not [1 = 1 or 1 = 1] then 5 else 6 end"), 6);
        due("choices", lawOf("if 1 = 1 or 1 = 1 and 1 = 2 then 5 else 6 end"), 5);
        due("choices", lawOf("if [1 = 1 or 1 = 1] and 1 = 2 then 5 else 6 end"), 6);
        due("choices", lawOf("if 1 = 2 then if 1 = 1 then 1 else 2 end else if 1 = 2 then 3 else 4 end end"), 4);
        // As many values as can wait: five at each level.
        String deep = "1";
        for (int i = 0; i < 6; i++) {
            deep = "if 1=2 or 1=1 and 1<1+1*" + deep + " then 1+1*2 else 9 end";
        }
        due("deep", lawOf(deep), 3);
        // Without a law 10 less far; the one who snored last, too; no such sleeper.
        SnorePlay x = of(NAMES);
        due("would(0)", x.would(0), 10);
        due("would(1)", x.would(1), 9);
        due("would(2)", x.would(2), 8);
        due("would(3)", x.would(3), -99000002);
        due("would(-1)", x.would(-1), -99000002);
        x.beats(9);
        due("would(0)", x.would(0), 9);
        x = of(PAIR);
        x.beats(9);
        due("count(7)", x.count(7), 1);
        due("would(1)", x.would(1), 9);
        x = of("house beds 2 sounds 6 acts 4;sleeper bed 0 dream 0;sleeper bed 1 dream 0;answers:act*100+sound;says:0;");
        x.beats(9);
        due("count(7)", x.count(7), 2);
        x = of("house beds 2 sounds 6 acts 4;sleeper bed 0 dream 0;sleeper bed 1 dream 0;answers:1+act;says:0;");
        due("beats(9)", x.beats(9), 4);
        due("would(0)", x.would(0), 5);
        // The rest of a number below 0 is 0 or more.
        x = of("house beds 2 sounds 5 acts 1;sleeper bed 0 dream 0;sleeper bed 1 dream 0;turns 4;says:0-7;");
        due("by(0, 1)", x.by(0, 1), 3);
        x = of("house beds 2 sounds 5 acts 1;sleeper bed 0 dream 0;sleeper bed 1 dream 0;turns 4;says:0-10;");
        due("by(0, 1)", x.by(0, 1), 0);
    }

    static void sleepers() {
        promise = "5";
        SnorePlay x = of(HUSHED);
        due("sleeper(1, 0)", x.sleeper(1, 0), 2);
        due("sleeper(2, 0)", x.sleeper(2, 0), 5);
        due("sleeper(2, 1)", x.sleeper(2, 1), 1);
        due("sleeper(3, 0)", x.sleeper(3, 0), -2);
        due("sleeper(-1, 0)", x.sleeper(-1, 0), -2);
        due("sleeper(0, 2)", x.sleeper(0, 2), -2);
        due("sleeper(0, -1)", x.sleeper(0, -1), -2);
    }

    static void beatsNow() {
        promise = "7";
        SnorePlay x = of(NAMES);
        due("by(0, 0)", x.by(0, 0), 1);
        due("by(0, 1)", x.by(0, 1), 1);
        due("by(0, 2)", x.by(0, 2), 0);
        due("by(1, 0)", x.by(1, 0), 1);
        due("by(2, 0)", x.by(2, 0), 2);
        due("by(2, 1)", x.by(2, 1), 2);
        due("by(2, 2)", x.by(2, 2), 1);
        due("by(4, 0)", x.by(4, 0), -5);
        due("by(-1, 0)", x.by(-1, 0), -5);
        due("by(10, 0)", x.by(10, 0), -5);
        due("by(0, 3)", x.by(0, 3), -2);
        due("by(9, -1)", x.by(9, -1), -2);
        due("count(9)", x.count(9), 0);
        due("count(10)", x.count(10), 0);
        x.beat(2);
        due("by(0, 0)", x.by(0, 0), -5);
        x = of(ALONE);
        due("by(0, 0)", x.by(0, 0), -1);
        due("by(0, 1)", x.by(0, 1), 0);
        due("by(1, 2)", x.by(1, 2), 0);
        // Of like ones the first.
        x = of("house beds 3 sounds 3 acts 1;sleeper bed 1 dream 0;sleeper bed 2 dream 1;sleeper bed 0 dream 2;turns 2;");
        due("by(0, 0)", x.by(0, 0), 1);
        due("by(2, 0)", x.by(2, 0), 2);

        promise = "8";
        x = of(NAMES);
        due("beat(5)", x.beat(5), -11);
        due("beat(-1)", x.beat(-1), -11);
        due("beat(10)", x.beat(10), -11);
        due("beat(100)", x.beat(100), -11);
        due("beat(0)", x.beat(0), 1);
        due("beat(0)", x.beat(0), 0);
        due("beat(2)", x.beat(2), 2);
        due("count(7)", x.count(7), 1);
        due("count(6)", x.count(6), 1);
        due("count(9)", x.count(9), 3);
        due("beat(0)", x.beat(0), -12);
        due("beat(4)", x.beat(4), -11);
        x = of(PAIR);
        due("beat(2)", x.beat(2), -1);
        due("count(7)", x.count(7), 2);
        due("count(9)", x.count(9), 0);
        due("count(4)", x.count(4), 0);
        due("beat(0)", x.beat(0), -12);
        due("dream(1, 5)", x.dream(1, 5), 0);
        due("beat(0)", x.beat(0), -12);

        promise = "9";
        x = of(ROUND);
        due("beats(0)", x.beats(0), -3);
        due("beats(100)", x.beats(100), -3);
        due("beats(99)", x.beats(99), 99);
        due("count(9)", x.count(9), 99);
        due("count(10)", x.count(10), 1);
        x = of(PAIR);
        due("beats(99)", x.beats(99), 2);
        due("count(10)", x.count(10), 1);
        due("beats(99)", x.beats(99), 0);
        due("count(10)", x.count(10), 1);
        x = of(ALONE);
        due("beats(5)", x.beats(5), 0);
        due("count(7)", x.count(7), 2);
        due("count(10)", x.count(10), 1);
    }

    static void deeds() {
        promise = "10";
        SnorePlay x = of(HUSHED);
        due("change(0, 2)", x.change(0, 2), 5);
        due("sleeper(0, 0)", x.sleeper(0, 0), 5);
        due("sleeper(2, 0)", x.sleeper(2, 0), 0);
        due("change(0, 0)", x.change(0, 0), -11);
        due("change(0, 3)", x.change(0, 3), -11);
        due("change(-1, 0)", x.change(-1, 0), -11);
        due("count(10)", x.count(10), 1);
        due("by(0, 0)", x.by(0, 0), 1);

        promise = "11";
        due("dream(1, 9)", x.dream(1, 9), 1);
        due("dream(1, 9)", x.dream(1, 9), 9);
        due("sleeper(1, 1)", x.sleeper(1, 1), 9);
        due("dream(1, 10)", x.dream(1, 10), -11);
        due("dream(1, -1)", x.dream(1, -1), -11);
        due("dream(3, 0)", x.dream(3, 0), -11);
        due("dream(-1, 0)", x.dream(-1, 0), -11);
        due("count(10)", x.count(10), 3);

        promise = "12";
        due("hush(9)", x.hush(9), 1);
        due("hush(0)", x.hush(0), 9);
        due("hush(10)", x.hush(10), -11);
        due("hush(-1)", x.hush(-1), -11);
        due("count(8)", x.count(8), 0);
        due("would(0)", x.would(0), 10);
        due("count(10)", x.count(10), 5);
    }

    static void undone() {
        promise = "13";
        SnorePlay x = of(HUSHED);
        due("undo(1)", x.undo(1), -3);
        x.beat(0);
        x.change(0, 1);
        x.dream(2, 7);
        x.hush(6);
        due("undo(0)", x.undo(0), -3);
        due("undo(5)", x.undo(5), -3);
        due("undo(1)", x.undo(1), 3);
        due("count(8)", x.count(8), 1);
        due("sleeper(2, 1)", x.sleeper(2, 1), 7);
        due("undo(3)", x.undo(3), 0);
        due("sleeper(2, 1)", x.sleeper(2, 1), 1);
        due("sleeper(0, 0)", x.sleeper(0, 0), 0);
        due("count(4)", x.count(4), 0);
        due("count(5)", x.count(5), 0);
        due("count(9)", x.count(9), 0);
        for (int i = 0; i < 12; i++) {
            x.hush(i % 10);
        }
        due("count(10)", x.count(10), 10);
        due("undo(11)", x.undo(11), -3);
        due("undo(10)", x.undo(10), 0);
        due("count(8)", x.count(8), 1);
        // What ended or fell still goes on again.
        x = of(PAIR);
        x.beats(2);
        due("undo(1)", x.undo(1), 0);
        due("count(7)", x.count(7), 0);
        due("count(6)", x.count(6), 0);
        x.beat(2);
        due("undo(1)", x.undo(1), 0);
        due("count(7)", x.count(7), 0);
    }

    static void judged() {
        promise = "14";
        SnorePlay x = of(NAMES);
        due("judge(0, 0)", x.judge(0, 0), -6);
        due("judge(4, 0)", x.judge(4, 0), -2);
        due("judge(-1, 0)", x.judge(-1, 0), -2);
        due("judge(0, 4)", x.judge(0, 4), -2);
        due("judge(0, -1)", x.judge(0, -1), -2);
        lay(x, 0);
        due("judge(0, 0)", x.judge(0, 0), -1);
        due("judge(0, 1)", x.judge(0, 1), 0);
        due("judge(0, 2)", x.judge(0, 2), 0);
        due("judge(0, 3)", x.judge(0, 3), 0);
        lay(x, 0, 0, 19, 102, 219, 2, 0);
        // 1 snores; hush 9; 0 and 2 change beds; 1 dreams 9; with 1 woken, of 0 and 2 as far away the first.
        due("judge(0, 2)", x.judge(0, 2), 1);
        due("judge(0, 0)", x.judge(0, 0), -1);
        lay(x, 1, 2, 0);
        due("judge(1, 0)", x.judge(1, 0), 1);
        due("judge(1, 1)", x.judge(1, 1), 2);
        due("judge(1, 2)", x.judge(1, 2), 2);
        due("judge(1, 3)", x.judge(1, 3), 12);
        due("count(9)", x.count(9), 0);
        long[] cant = {4, -1, 20, 99, 100, 111, 103, 130, 230, 299, 300, 1L << 32, Long.MIN_VALUE};
        for (long v : cant) {
            lay(x, 2, 15, v);
            due("judge of " + v, x.judge(2, 0), 1);
            due("why of " + v, x.judge(2, 1), 1);
        }
        SnorePlay none = new SnorePlay();
        lay(none, 0, 10, 0);
        due("judge(0, 1)", none.judge(0, 1), 2);
        due("judge(0, 2)", none.judge(0, 2), -1);

        promise = "15";
        due("perform(3)", x.perform(3), -6);
        due("perform(4)", x.perform(4), -2);
        lay(x, 0, 0, 19, 102, 215, 4);
        due("perform(0)", x.perform(0), 4);
        due("count(4)", x.count(4), 1);
        due("count(8)", x.count(8), 9);
        due("sleeper(0, 0)", x.sleeper(0, 0), 2);
        due("sleeper(1, 1)", x.sleeper(1, 1), 5);
        due("count(10)", x.count(10), 1);
        lay(x, 0, 4);
        due("perform(0)", x.perform(0), 0);
        due("count(10)", x.count(10), 1);
        due("undo(1)", x.undo(1), 0);
        due("count(4)", x.count(4), 0);
        due("sleeper(0, 0)", x.sleeper(0, 0), 0);
    }

    static void nights() {
        promise = "16";
        SnorePlay x = of(NAMES);
        due("night(0, 0)", x.night(0, 0), -3);
        due("night(0, 41)", x.night(0, 41), -3);
        for (int seed = -20; seed < 20; seed++) {
            SnorePlay by = of(HUSHED);
            SnorePlay told = of(HUSHED);
            int done = 0;
            int v = seed * 1234567;
            int at = v;
            for (int i = 0; i < 40; i++) {
                int[] d = new int[3];
                at = 1103515245 * at + 12345;
                int kind = (at >>> 16) % 6;
                int draws = kind < 2 ? 0 : kind < 4 ? 1 : 2;
                for (int k = 0; k < draws; k++) {
                    at = 1103515245 * at + 12345;
                    d[k] = at >>> 16;
                }
                int answer = kind < 2 ? told.beat(0) : kind == 2 ? told.beat(d[0] % 7) : kind == 3 ? told.hush(d[0] % 10)
                    : kind == 4 ? told.change(d[0] % 6, d[1] % 6) : told.dream(d[0] % 6, d[1] % 10);
                done += answer < -1 ? 0 : 1;
            }
            due("night(" + v + ", 40)", by.night(v, 40), done);
            for (int what = 0; what < 10; what++) {
                due("count(" + what + ") behind it", by.count(what), told.count(what));
            }
            for (int s = 0; s < 3; s++) {
                due("sleeper behind it", by.sleeper(s, 0), told.sleeper(s, 0));
                due("sleeper behind it", by.sleeper(s, 1), told.sleeper(s, 1));
            }
            due("count(10)", by.count(10), done > 0 ? 1 : 0);
            due("undo(1)", by.undo(1), 0);
            due("count(9)", by.count(9), 0);
            due("count(8)", by.count(8), 1);
        }
        SnorePlay none = new SnorePlay();
        int done = none.night(5, 1);
        due("count(10)", none.count(10), done);
    }

    static void leftAlone() {
        promise = "17";
        SnorePlay x = of(PAIR);
        due("goes(0)", x.goes(0), 0);
        due("goes(1)", x.goes(1), 2);
        due("goes(2)", x.goes(2), -2);
        due("goes(-1)", x.goes(-1), -2);
        x.beats(2);
        due("goes(0)", x.goes(0), 0);
        due("goes(1)", x.goes(1), 0);
        x = of(ALONE);
        due("goes(0)", x.goes(0), 1);
        due("goes(1)", x.goes(1), 1);
        x.beat(0);
        due("goes(0)", x.goes(0), 1);
        due("goes(1)", x.goes(1), 0);
        x = of(ROUND);
        due("goes(0)", x.goes(0), 2);
        due("goes(1)", x.goes(1), -1);

        promise = "18";
        due("lies(1)", x.lies(1), 1);
        due("lies(2)", x.lies(2), 0);
        due("lies(3)", x.lies(3), 1);
        due("lies(99998)", x.lies(99998), 0);
        due("lies(99999)", x.lies(99999), 1);
        due("lies(100000)", x.lies(100000), -3);
        due("lies(0)", x.lies(0), -3);
        x = of(PAIR);
        due("lies(2)", x.lies(2), 0);
        due("lies(3)", x.lies(3), -1);
        x = of(ALONE);
        due("lies(1)", x.lies(1), -1);

        promise = "19";
        due("round(0)", x.round(0), -1);
        due("round(2)", x.round(2), -2);
        due("round(-1)", x.round(-1), -2);
        x = of(ROUND);
        due("round(0)", x.round(0), 1);
        due("round(1)", x.round(1), 2);
        x.beat(0);
        due("round(0)", x.round(0), 0);
        due("round(1)", x.round(1), 2);
        // Sounds 0, 1, 2, 3, 1, 2, 3 ..: six beats round, since two snore by turns.
        x = of("house beds 2 sounds 5 acts 1;sleeper bed 0 dream 0;sleeper bed 1 dream 0;turns 4;"
            + "says:if sound = 3 then 1 else sound + 1 end;");
        due("round(0)", x.round(0), 1);
        due("round(1)", x.round(1), 6);
    }

    static void woken() {
        promise = "20";
        SnorePlay x = of(PAIR);
        due("soonest(0)", x.soonest(0), 2);
        due("soonest(1)", x.soonest(1), 1);
        due("soonest(2)", x.soonest(2), -2);
        due("soonest(-1)", x.soonest(-1), -2);
        x.beats(2);
        due("soonest(0)", x.soonest(0), 0);
        due("soonest(1)", x.soonest(1), -1);
        x = of(NAMES);
        due("soonest(0)", x.soonest(0), 1);
        due("soonest(1)", x.soonest(1), -1);

        promise = "21";
        due("way(0, 0)", x.way(0, 0), 2);
        due("way(0, 1)", x.way(0, 1), -1);
        due("way(1, 0)", x.way(1, 0), -1);
        due("way(0, -1)", x.way(0, -1), -3);
        due("way(2, -1)", x.way(2, -1), -2);
        x = of(PAIR);
        due("way(0, 0)", x.way(0, 0), 0);
        due("way(0, 1)", x.way(0, 1), 0);
        due("way(0, 2)", x.way(0, 2), -1);
        due("way(1, 0)", x.way(1, 0), 2);

        promise = "22";
        due("rows(2, 0)", x.rows(2, 0), 1);
        due("rows(0, 0)", x.rows(0, 0), 0);
        due("rows(1, 0)", x.rows(1, 0), 0);
        due("rows(2, 1)", x.rows(2, 1), 2);
        due("rows(1, 1)", x.rows(1, 1), 1);
        due("rows(0, 2)", x.rows(0, 2), 4);
        due("rows(1, 2)", x.rows(1, 2), 2);
        due("rows(2, 2)", x.rows(2, 2), 0);
        due("rows(0, 3)", x.rows(0, 3), 0);
        due("rows(3, 0)", x.rows(3, 0), -2);
        due("rows(-1, 0)", x.rows(-1, 0), -2);
        due("rows(0, 11)", x.rows(0, 11), -3);
        due("rows(0, -1)", x.rows(0, -1), -3);
        x.beats(2);
        due("rows(0, 0)", x.rows(0, 0), 1);
        due("rows(0, 1)", x.rows(0, 1), 0);
        // Six who always can answer: each of seven deeds goes on, ten times.
        x = of("house beds 6 sounds 2 acts 1;sleeper bed 0 dream 0;sleeper bed 1 dream 0;sleeper bed 2 dream 0;"
            + "sleeper bed 3 dream 0;sleeper bed 4 dream 0;sleeper bed 5 dream 0;turns 1;");
        due("rows(2, 10)", x.rows(2, 10), 282475249L);

        promise = "25";
        due("heardOf()", x.heardOf(), 63);
        x = of(ALONE);
        due("heardOf()", x.heardOf(), 0);
        x = of(NAMES);
        due("heardOf()", x.heardOf(), 7);
        x.beat(2);
        due("heardOf()", x.heardOf(), 0);
        // The one who opens is only heard of if it snores again.
        x = of("house beds 3 sounds 1 acts 1;sleeper bed 0 dream 0;sleeper bed 1 dream 0;");
        due("heardOf()", x.heardOf(), 2);
    }

    static void kept() {
        promise = "23";
        SnorePlay x = of(PAIR);
        due("keeps()", x.keeps(), 1);
        x.beats(2);
        due("keeps()", x.keeps(), -5);
        x = of(ALONE);
        due("keeps()", x.keeps(), 0);
        x.beat(0);
        due("keeps()", x.keeps(), -5);
        x = of(NAMES);
        due("keeps()", x.keeps(), -1);
        // Each snore turns: three more behind which a fourth act is left.
        x = of("house beds 3 sounds 1 acts 4;sleeper bed 0 dream 0;sleeper bed 1 dream 0;sleeper bed 2 dream 0;");
        due("keeps()", x.keeps(), 3);

        promise = "24";
        due("keeping(0)", x.keeping(0), 0);
        due("keeping(2)", x.keeping(2), 0);
        due("keeping(3)", x.keeping(3), -1);
        due("keeping(100)", x.keeping(100), -3);
        due("keeping(-1)", x.keeping(-1), -3);
        x = of(NAMES);
        // Left alone 1, 0, 1, 0 .. snore for ever.
        due("keeping(0)", x.keeping(0), 0);
        due("keeping(99)", x.keeping(99), 0);
        // 2 would answer first and end it; woken, 1 and 0 go on for ever.
        x = of("house beds 3 sounds 3 acts 1;sleeper bed 0 dream 0;sleeper bed 1 dream 0;"
            + "sleeper bed 2 dream 0;turns 2;answers:who+1;says:who;");
        due("keeps()", x.keeps(), -1);
        due("keeping(0)", x.keeping(0), 3);
        due("keeping(1)", x.keeping(1), 3);
        x.beat(0);
        due("keeping(0)", x.keeping(0), -5);
        due("keeping(100)", x.keeping(100), -3);
        x = of(PAIR);
        due("keeping(0)", x.keeping(0), 0);
        due("keeping(1)", x.keeping(1), -1);
    }

    static void placed() {
        promise = "26";
        // 2 ends it; it snores at once only next to 0, who snored last: of 0 1 3 that is beds 0 3 1 or 1 3 0.
        SnorePlay x = of("house beds 4 sounds 3 acts 1;sleeper bed 0 dream 0;sleeper bed 1 dream 0;"
            + "sleeper bed 3 dream 0;turns 2;says:who;");
        due("placing(0)", x.placing(0), 1);
        due("placing(10)", x.placing(10), 0);
        due("placing(11)", x.placing(11), 3);
        due("placing(12)", x.placing(12), 1);
        due("placing(13)", x.placing(13), -2);
        due("placing(1)", x.placing(1), -2);
        due("placing(9)", x.placing(9), -2);
        due("placing(-1)", x.placing(-1), -2);
        due("sleeper(1, 0)", x.sleeper(1, 0), 1);
        x.change(0, 2);
        due("placing(0)", x.placing(0), 1);
        due("placing(10)", x.placing(10), 0);
        x.hush(3);
        x.beat(2);
        due("count(7)", x.count(7), 1);
        due("placing(0)", x.placing(0), 0);
        due("placing(11)", x.placing(11), 1);
        due("placing(12)", x.placing(12), 3);
        x = of(ROUND);
        due("placing(0)", x.placing(0), -1);
        due("placing(10)", x.placing(10), -1);
        due("placing(12)", x.placing(12), -2);
        x = of(PAIR);
        due("placing(0)", x.placing(0), 2);
        x.beat(2);
        due("placing(0)", x.placing(0), -1);

        promise = "27";
        x = of(PAIR);
        due("fills(0)", x.fills(0), 682);
        due("fills(1)", x.fills(1), 1023);
        due("fills(2)", x.fills(2), -2);
        due("fills(-1)", x.fills(-1), -2);
        due("sleeper(0, 1)", x.sleeper(0, 1), 1);
        x.beat(2);
        due("fills(1)", x.fills(1), 0);
        x.undo(1);
        x.beats(2);
        due("fills(0)", x.fills(0), 1023);
    }

    static void heardOnes() {
        promise = "28";
        SnorePlay x = of(PAIR);
        due("heard(0)", x.heard(0), -6);
        due("heard(4)", x.heard(4), -2);
        due("heard(-1)", x.heard(-1), -2);
        lay(x, 0);
        due("heard(0)", x.heard(0), -4);
        lay(x, 0, 0, 0, 0, 0, 0, 0, 0, 0, 7);
        due("heard(0)", x.heard(0), -4);
        lay(x, 0, 0, 2);
        due("heard(0)", x.heard(0), -3);
        lay(x, 0, -2);
        due("heard(0)", x.heard(0), -3);
        lay(x, 0, 1L << 32);
        due("heard(0)", x.heard(0), -3);
        lay(x, 0, 0, 1);
        due("heard(0)", x.heard(0), 4);
        lay(x, 1, -1, -1);
        due("heard(1)", x.heard(1), 4);
        lay(x, 2, 1);
        due("heard(2)", x.heard(2), 0);
        lay(x, 3, -1, -1, -1);
        due("heard(3)", x.heard(3), 0);

        promise = "29";
        due("heardBy(0, 0)", x.heardBy(0, 0), 0);
        due("heardBy(0, 1)", x.heardBy(0, 1), 0);
        due("heardBy(0, 2)", x.heardBy(0, 2), -1);
        due("heardBy(0, -1)", x.heardBy(0, -1), -3);
        due("heardBy(2, 0)", x.heardBy(2, 0), -1);
        due("heardBy(4, -1)", x.heardBy(4, -1), -2);

        promise = "30";
        due("suspects(0, 0)", x.suspects(0, 0), 2);
        due("suspects(0, 1)", x.suspects(0, 1), 1);
        due("suspects(0, 2)", x.suspects(0, 2), -7);
        due("suspects(0, -1)", x.suspects(0, -1), -3);
        due("suspects(2, 0)", x.suspects(2, 0), 0);
        due("suspects(3, 0)", x.suspects(3, 0), 0);
        due("suspects(4, 0)", x.suspects(4, 0), -2);

        x = of(NAMES);
        // 2 ends it, so it can be only the last of them.
        lay(x, 0, -1, -1);
        promise = "28";
        due("heard(0)", x.heard(0), 12);
        promise = "30";
        due("suspects(0, 0)", x.suspects(0, 0), 2);
        due("suspects(0, 1)", x.suspects(0, 1), 5);
        promise = "29";
        lay(x, 1, 1, 2);
        due("heardBy(1, 0)", x.heardBy(1, 0), 0);
        due("heardBy(1, 1)", x.heardBy(1, 1), 1);
        promise = "28";
        due("heard(1)", x.heard(1), 3);
        lay(x, 2, 1, 0, 1, 0, 1, 0, 1, 0);
        due("heard(2)", x.heard(2), 6561);
        x.beat(2);
        due("heard(1)", x.heard(1), 0);
    }

    static void said() {
        promise = "31";
        SnorePlay x = of(HUSHED);
        due("hushes(0)", x.hushes(0), -6);
        due("hushes(5)", x.hushes(5), -2);
        lay(x, 0);
        due("hushes(0)", x.hushes(0), -4);
        lay(x, 0, 1, 1, 1, 1, 1, 1, 1, 1, 1);
        due("hushes(0)", x.hushes(0), -4);
        lay(x, 0, 3);
        due("hushes(0)", x.hushes(0), -3);
        lay(x, 0, -1);
        due("hushes(0)", x.hushes(0), -3);
        // 1 lies 2 from 0: 10 - 2 - hush above 0 by hushes 0 to 7.
        lay(x, 0, 1);
        due("hushes(0)", x.hushes(0), 255);
        due("count(8)", x.count(8), 1);
        lay(x, 1, 1, 0);
        due("hushes(1)", x.hushes(1), 255);
        lay(x, 2, 2);
        due("hushes(2)", x.hushes(2), 0);

        promise = "32";
        // Waking 1, 2 answers by hushes 0 to 4, nobody by 5 to 7.
        due("attempt(0)", x.attempt(0), 2);
        due("attempt(2)", x.attempt(2), -1);
        due("attempt(3)", x.attempt(3), -6);
        due("attempt(-1)", x.attempt(-1), -2);
        lay(x, 3, 3);
        due("attempt(3)", x.attempt(3), -3);
        lay(x, 3);
        due("attempt(3)", x.attempt(3), -4);
        x.beat(0);
        x.beat(0);
        due("hushes(0)", x.hushes(0), 255);
        // The sounds tell hushes apart without waking anybody: of like deeds the first.
        x = of("house beds 2 sounds 6 acts 1;sleeper bed 0 dream 0;sleeper bed 1 dream 0;turns 5;says:hush;");
        lay(x, 0, 1);
        due("hushes(0)", x.hushes(0), 1023);
        due("attempt(0)", x.attempt(0), 0);
        x.beats(99);
        due("count(7)", x.count(7), 0);
        x.hush(5);
        x.beat(0);
        due("count(7)", x.count(7), 1);
        due("hushes(0)", x.hushes(0), 0);
        due("attempt(0)", x.attempt(0), -1);
    }

    static void byTurns() {
        promise = "33";
        SnorePlay x = of(NAMES);
        due("forces()", x.forces(), 1);
        promise = "34";
        due("best()", x.best(), 2);
        x.beat(2);
        promise = "33";
        due("forces()", x.forces(), 0);
        promise = "34";
        due("best()", x.best(), -1);
        // The other one can wake the only one who would answer.
        x = of(PAIR);
        promise = "33";
        due("forces()", x.forces(), -1);
        promise = "34";
        due("best()", x.best(), -1);
        // Each snore turns, and of three one always answers: whatever is done, four beats.
        x = of("house beds 3 sounds 1 acts 4;sleeper bed 0 dream 0;sleeper bed 1 dream 0;sleeper bed 2 dream 0;");
        promise = "33";
        due("forces()", x.forces(), 4);
        promise = "34";
        due("best()", x.best(), 0);
        x.beat(0);
        promise = "33";
        due("forces()", x.forces(), 3);
        x = of(ALONE);
        due("forces()", x.forces(), -1);
    }

    static void chances() {
        promise = "35";
        SnorePlay x = of(PAIR);
        due("chance(0, 0)", x.chance(0, 0), 0);
        due("chance(0, 1)", x.chance(0, 1), 1);
        due("chance(1, 0)", x.chance(1, 0), 0);
        due("chance(2, 0)", x.chance(2, 0), 81);
        due("chance(2, 1)", x.chance(2, 1), 100);
        due("chance(7, 0)", x.chance(7, 0), 81);
        due("chance(7, 1)", x.chance(7, 1), 100);
        due("chance(8, 0)", x.chance(8, 0), -3);
        due("chance(-1, 0)", x.chance(-1, 0), -3);
        due("chance(8, 2)", x.chance(8, 2), -2);
        due("chance(1, -1)", x.chance(1, -1), -2);
        x = of(NAMES);
        // One of ten lots lets 2 snore behind 0 (lot 1); behind 1, 0 or 2 are as near: lot 0 lets 2.
        due("chance(1, 0)", x.chance(1, 0), 1);
        due("chance(1, 1)", x.chance(1, 1), 10);
        due("chance(2, 0)", x.chance(2, 0), 19);
        due("chance(2, 1)", x.chance(2, 1), 100);
        x.beat(2);
        due("chance(3, 0)", x.chance(3, 0), 1);
        due("chance(3, 1)", x.chance(3, 1), 1);

        promise = "36";
        due("mean(3, 0)", x.mean(3, 0), 1);
        due("mean(3, 1)", x.mean(3, 1), 1);
        due("mean(3, 2)", x.mean(3, 2), -2);
        due("mean(8, 0)", x.mean(8, 0), -3);
        due("mean(-1, 0)", x.mean(-1, 0), -3);
        x = of("house beds 2 sounds 1 acts 4;sleeper bed 0 dream 0;sleeper bed 1 dream 0;");
        // Each beat nine of ten lots let the other one snore, which turns; else it is still.
        due("mean(0, 0)", x.mean(0, 0), 0);
        due("mean(0, 1)", x.mean(0, 1), 1);
        due("mean(1, 0)", x.mean(1, 0), 9);
        due("mean(1, 1)", x.mean(1, 1), 10);
        due("mean(2, 0)", x.mean(2, 0), 171);
        due("mean(2, 1)", x.mean(2, 1), 100);
        due("mean(7, 0)", x.mean(7, 0), 30951);
        due("mean(7, 1)", x.mean(7, 1), 10000);
        promise = "35";
        due("chance(4, 0)", x.chance(4, 0), 6561);
        due("chance(4, 1)", x.chance(4, 1), 10000);
    }

    static void traysAndImages() {
        promise = "37";
        SnorePlay x = of(PAIR);
        due("numbers(4, 0, 1)", x.numbers(4, 0, 1), -2);
        due("numbers(-1, 0, 1)", x.numbers(-1, 0, 1), -2);
        due("numbers(0, 4, 1)", x.numbers(0, 4, 1), -2);
        due("numbers(0, -1, 99)", x.numbers(0, -1, 99), -2);
        due("numbers(0, 0, 41)", x.numbers(0, 0, 41), -3);
        due("numbers(0, 0, -1)", x.numbers(0, 0, -1), -3);
        due("write(0, 0, 1)", x.write(0, 0, 1), -6);
        due("numbers(0, 0, 40)", x.numbers(0, 0, 40), 0);
        due("numbers(0, 0, 41)", x.numbers(0, 0, 41), -3);
        due("write(0, 39, 1)", x.write(0, 39, 1), 1);
        due("numbers(0, 1, 0)", x.numbers(0, 1, 0), 0);
        due("write(0, 0, 1)", x.write(0, 0, 1), -7);
        due("numbers(0, 1, 40)", x.numbers(0, 1, 40), 0);
        due("judge(0, 0)", x.judge(0, 0), 2);

        promise = "38";
        due("write(4, 0, 0)", x.write(4, 0, 0), -2);
        due("write(1, 0, 0)", x.write(1, 0, 0), -6);
        due("write(0, 40, 0)", x.write(0, 40, 0), -7);
        due("write(0, -1, 0)", x.write(0, -1, 0), -7);
        long v = 0x1234567890abcdefL;
        long[] cut = {(byte) 0xef, (short) 0xcdef, 0x90abcdef, v};
        for (int sort = 0; sort < 4; sort++) {
            x.numbers(2, sort, 1);
            due("write, sort " + sort, x.write(2, 0, v), cut[sort]);
            due("write, sort " + sort, x.write(2, 0, -1), -1);
        }
        x.numbers(2, 0, 1);
        due("write(2, 0, 200)", x.write(2, 0, 200), -56);
        due("judge(2, 1)", x.judge(2, 1), 1);

        promise = "39";
        due("lists(4, 0)", x.lists(4, 0), -2);
        due("lists(3, 2)", x.lists(3, 2), -2);
        due("lists(3, -1)", x.lists(3, -1), -2);
        due("lists(3, 0)", x.lists(3, 0), -6);
        lay(x, 0, 0, 0);
        due("lists(0, 1)", x.lists(0, 1), 2);
        due("heard(0)", x.heard(0), 4);
        lay(x, 0, 1, 0, 1);
        due("lists(0, 0)", x.lists(0, 0), 2);
        due("judge(0, 0)", x.judge(0, 0), 2);
        lay(x, 1, 0);
        due("lists(1, 0)", x.lists(1, 0), 1);
        due("hushes(1)", x.hushes(1), 1023);
        due("count(9)", x.count(9), 0);
        lay(x, 1);
        due("lists(1, 0)", x.lists(1, 0), 0);
        // Places that nothing comes to stay as they are.
        lay(x, 1, 0, 0, 15);
        due("lists(1, 0)", x.lists(1, 0), 2);
        due("judge(1, 0)", x.judge(1, 0), -1);
        lay(x, 1, 0, 0, 99);
        due("lists(1, 0)", x.lists(1, 0), 2);
        due("judge(1, 0)", x.judge(1, 0), 2);
        x.beats(2);
        due("lists(1, 0)", x.lists(1, 0), 0);

        promise = "41";
        x = of(PAIR);
        due("restore(0)", x.restore(0), -5);
        due("restore(2)", x.restore(2), -2);
        due("restore(-1)", x.restore(-1), -2);
        promise = "40";
        due("image(2)", x.image(2), -2);
        due("image(-1)", x.image(-1), -2);
        x.beat(0);
        x.hush(7);
        due("image(1)", x.image(1), 0);
        due("count(10)", x.count(10), 2);
        promise = "41";
        due("restore(0)", x.restore(0), -5);
        due("house", tell(x, HUSHED), 7);
        due("image(0)", x.image(0), 0);
        x.change(0, 2);
        feedText(x, "x");
        due("restore(1)", x.restore(1), 0);
        due("count(11)", x.count(11), 20);
        due("count(10)", x.count(10), 0);
        due("count(12)", x.count(12), 4);
        due("count(0)", x.count(0), 2);
        due("count(1)", x.count(1), 2);
        due("count(4)", x.count(4), 1);
        due("count(8)", x.count(8), 7);
        due("count(9)", x.count(9), 1);
        due("beat(0)", x.beat(0), 0);
        due("count(7)", x.count(7), 1);
        due("restore(0)", x.restore(0), 0);
        due("count(7)", x.count(7), 0);
        due("sleeper(0, 0)", x.sleeper(0, 0), 0);
        due("would(2)", x.would(2), 4);
        due("restore(1)", x.restore(1), 0);
        due("count(4)", x.count(4), 1);
    }

    static void counts() {
        promise = "42";
        SnorePlay x = of(HUSHED);
        due("count(-1)", x.count(-1), -1);
        due("count(13)", x.count(13), -1);
        int[] first = {6, 3, 3, 4, 0, 0, 0, 0, 1, 0, 0, 0, 7};
        for (int what = 0; what < first.length; what++) {
            due("count(" + what + ")", x.count(what), first[what]);
        }
        x.feed(0, 0, 0, 0, 0);
        x.beat(0);
        x.beat(0);
        x.hush(4);
        int[] then = {6, 3, 3, 4, 0, 2, 1, 0, 4, 2, 3, 20, 7};
        for (int what = 0; what < then.length; what++) {
            due("count(" + what + ")", x.count(what), then[what]);
        }
    }
}
