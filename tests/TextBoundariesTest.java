/** Each boundary that the document names of the text of a house, the tape and faults (promises 1 to 4). */
public final class TextBoundariesTest extends Asking {
    // 29 signs.
    static final String HEAD = "house beds 2 sounds 2 acts 1;";
    static final int BEHIND_HEAD = 29;

    public static void main(String[] args) {
        newObject();
        tape();
        wholeTexts();
        houses();
        faultOfTheLatest();
        heads();
        sleepersTold();
        opening();
        turning();
        hushTold();
        laterOnes();
        tokens();
        longTokens();
        firstFault();
        leastKind();
        theEnd();
        houseFirstAndOnce();
        within();
        grammar();
        finish();
    }

    static void newObject() {
        sentence("1", "No SLEEPERS; the play is STILL");
        SnorePlay x = new SnorePlay();
        due("count(1)", x.count(1), 0);
        due("count(4)", x.count(4), -1);
        due("count(7)", x.count(7), 2);
        due("goes(0)", x.goes(0), 1);
        due("goes(1)", x.goes(1), 0);
        due("beat(0)", x.beat(0), -12);
        due("sleeper(0, 0)", x.sleeper(0, 0), -2);
        sentence("1", "without one: 1 BED, 1 SOUND, 1 ACT, HUSH 0");
        due("count(0)", x.count(0), 1);
        due("count(2)", x.count(2), 1);
        due("count(3)", x.count(3), 1);
        due("count(8)", x.count(8), 0);
        due("count(12)", x.count(12), 0);
        sentence("1", "nothing was done, fed or made yet");
        due("count(5)", x.count(5), 0);
        due("count(6)", x.count(6), 0);
        due("count(9)", x.count(9), 0);
        due("count(10)", x.count(10), 0);
        due("count(11)", x.count(11), 0);
        for (int i = 0; i < 2; i++) {
            due("restore(" + i + ")", x.restore(i), -5);
        }
        for (int tray = 0; tray < 4; tray++) {
            due("perform(" + tray + ")", x.perform(tray), -6);
        }
    }

    static void tape() {
        sentence("2", "Twenty bytes come behind those on THE TAPE: how many it has");
        SnorePlay x = new SnorePlay();
        for (int bytes = 20; bytes <= 900; bytes += 20) {
            due("feed", x.feed(-1, 0, Integer.MIN_VALUE, Integer.MAX_VALUE, 1), bytes);
            due("count(11)", x.count(11), bytes);
        }
        sentence("2", "-5: it would have more than 900");
        due("feed", x.feed(0, 0, 0, 0, 0), -5);
        due("feed", x.feed(0, 0, 0, 0, 0), -5);
        due("count(11)", x.count(11), 900);
        sentence("2", "a refused feed leaves the bytes as they were");
        x = new SnorePlay();
        feedText(x, filled(900));
        due("feed", x.feed(0, 0, 0, 0, 0), -5);
        due("house(900)", x.house(900), 2);
        sentence("2", "the highest of each int first");
        // "house beds 1 so", "unds 1 acts 1; " with one byte in each place that another order would bring elsewhere.
        x = new SnorePlay();
        x.feed(0x686f7573, 0x65206265, 0x64732033, 0x20736f75, 0x6e647320);
        due("feed", x.feed(0x34206163, 0x74732032, 0x3b202020, 0x20202020, 0x20202020), 40);
        due("house(40)", x.house(40), 1);
        due("count(0)", x.count(0), 3);
        due("count(2)", x.count(2), 4);
        due("count(3)", x.count(3), 2);
        sentence("2", "bytes above 127 are bytes, too");
        x = new SnorePlay();
        x.feed(0x686f7573, 0x65ff0000, 0, 0, 0);
        due("house(6)", x.house(6), -31);
        due("fault(1)", x.fault(1), 5);
    }

    /** A text of so many bytes, the last of which is needed. */
    static String filled(int bytes) {
        StringBuilder t = new StringBuilder(HEAD);
        String line = "sleeper bed 1 dream 7;";
        while (t.length() + line.length() < bytes) {
            t.append(t.length() % 7 == 0 ? '\n' : ' ');
        }
        return t.append(line).toString();
    }

    static void wholeTexts() {
        sentence("3", "THE HOUSE is a TEXT of at most 900 bytes");
        SnorePlay x = new SnorePlay();
        feedText(x, filled(900));
        due("count(11)", x.count(11), 900);
        due("house(900)", x.house(900), 2);
        due("sleeper(0, 1)", x.sleeper(0, 1), 7);
        feedText(x, filled(900));
        due("house(899)", x.house(899), -32);
        due("fault(1)", x.fault(1), 899);
        // A law as long as a text can hold.
        StringBuilder law = new StringBuilder(HEAD + "sleeper bed 0 dream 0;answers:0");
        while (law.length() + 3 <= 900) {
            law.append("+1");
        }
        int ones = (law.length() - HEAD.length() - 31) / 2;
        due("house", tell(x, law.append(';').toString()), 3);
        due("would(0)", x.would(0), ones);
    }

    static void houses() {
        sentence("3", "-3: n is below 0 or above what there is (THE TAPE stays)");
        SnorePlay x = of(PAIR);
        x.beat(0);
        due("house(1)", x.house(1), -3);
        feedText(x, HEAD);
        String before = state(x);
        for (int n : new int[] {-1, Integer.MIN_VALUE, 41, 901, Integer.MAX_VALUE}) {
            due("house(" + n + ")", x.house(n), -3);
        }
        stays("house() refused", x, before);
        due("count(11)", x.count(11), 40);
        due("house(29)", x.house(BEHIND_HEAD), 1);
        sentence("3", "all that there is can be read");
        feedText(x, HEAD);
        due("house(40)", x.house(40), 1);
        sentence("3", "n is 0: the text is empty, so its end can't stand there");
        due("house(0)", x.house(0), -32);
        due("fault(0)", x.fault(0), 2);
        due("fault(1)", x.fault(1), 0);
        feedText(x, HEAD);
        due("house(0)", x.house(0), -32);
        sentence("3", "THE TAPE (which is empty then)");
        due("count(11)", x.count(11), 0);
        feedText(x, HEAD + "    turns 1;");
        due("house(29)", x.house(BEHIND_HEAD), 1);
        due("count(11)", x.count(11), 0);
        due("house(1)", x.house(1), -3);
        due("house of what can't be read", tell(x, "lamp"), -32);
        due("count(11)", x.count(11), 0);
        due("feed", x.feed(0, 0, 0, 0, 0), 20);
        sentence("3", "The first n bytes");
        x = new SnorePlay();
        feedText(x, PAIR);
        due("house(51)", x.house(51), 2);
        due("count(1)", x.count(1), 1);
        cutShort(HEAD + "hush 1", "2;", 2, 35);
        cutShort(HEAD + "says:who", "m;", 2, 37);
        cutShort(HEAD + "says:1", "+1;", 2, 35);
        cutShort(HEAD + "hush 100", "0;", 3, 34);
        cutShort("house beds 1 sounds 1 acts 1", ";", 2, 28);
        sentence("3", "a word or an N goes on to the 900th byte and no farther");
        String filler = " ".repeat(900 - BEHIND_HEAD - 4);
        faultOf(HEAD + filler + "hush", 2, 900);
        faultOf(HEAD + filler + "lamp", 2, 896);
        faultOf(HEAD + filler + "1000", 1, 896);
        faultOf(HEAD + filler + " 100", 2, 897);
        faultOf(HEAD + filler + "   ?", 1, 899);
        opened();
        withAFault();
        sentence("3", "how many LINES (house, too)");
        linesOf(HEAD, 1);
        linesOf(HEAD + "turns 0;", 2);
        linesOf(HEAD + "turns 0;turns 1;hush 1;hush 2;says:1;says:2;", 7);
        due("count(12)", of(HEAD + "turns 0;turns 1;").count(12), 3);
    }

    /** A text of which only the first part is read: what stands behind it on the tape doesn't count. */
    static void cutShort(String read, String left, int kind, int place) {
        SnorePlay x = new SnorePlay();
        feedText(x, read + left);
        due("house of " + read, x.house(read.length()), -30 - kind);
        due("fault(1) of " + read, x.fault(1), place);
    }

    static void opened() {
        sentence("3", "BEATS are 0, the play isn't STILL, nothing can be UNDONE");
        SnorePlay x = of(PAIR);
        x.beat(0);
        x.hush(4);
        x.beat(1);
        due("count(7)", x.count(7), 2);
        due("count(9)", x.count(9), 1);
        due("count(10)", x.count(10), 3);
        due("house", tell(x, PAIR), 4);
        due("count(7)", x.count(7), 0);
        due("count(9)", x.count(9), 0);
        due("count(10)", x.count(10), 0);
        due("undo(1)", x.undo(1), -3);
        due("count(8)", x.count(8), 0);
        due("count(4)", x.count(4), 0);
        due("count(5)", x.count(5), 0);
        due("house behind an end", x.beats(9), 2);
        due("count(6)", x.count(6), 1);
        due("house", tell(x, PAIR), 4);
        due("count(6)", x.count(6), 0);
        due("count(7)", x.count(7), 0);
        sentence("3", "without SLEEPERS it is");
        due("house", tell(x, "house beds 6 sounds 6 acts 4;"), 1);
        due("count(7)", x.count(7), 2);
        due("count(4)", x.count(4), -1);
        due("beat(0)", x.beat(0), -12);
        due("house", tell(x, PAIR), 4);
        due("count(7)", x.count(7), 0);
    }

    static void withAFault() {
        sentence("3", "all stays with a FAULT");
        String[] faulty = {"", "?", "house beds 6 sounds 6 acts 4", "house beds 6 sounds 6 acts 4;sleeper bed 5 dream 3;turns 5;hush 8;"
            + "opens 0 sound 5;answers:1;says:2;lamp", "house beds 7", "house beds 1 sounds 1 acts 1;sleeper bed 0 dream 0;sleeper"};
        for (String text : faulty) {
            SnorePlay x = of(HUSHED);
            x.beats(2);
            x.change(0, 1);
            x.dream(2, 6);
            x.hush(3);
            String before = state(x);
            due("house of " + text, tell(x, text) < -30 ? 1 : 0, 1);
            stays("house of " + text, x, before);
            due("by(0, 0)", x.by(0, 0), 1);
            due("undo(4)", x.undo(4), 0);
            due("count(8)", x.count(8), 1);
        }
    }

    static void faultOfTheLatest() {
        sentence("4", "Of the latest house() that was read: its FAULT (0), its place (NONE)");
        SnorePlay x = new SnorePlay();
        due("fault(0)", x.fault(0), 0);
        due("fault(1)", x.fault(1), -1);
        tell(x, HEAD + "lamp");
        due("fault(0)", x.fault(0), 2);
        due("fault(1)", x.fault(1), 29);
        due("house(-1)", x.house(-1), -3);
        due("house(1)", x.house(1), -3);
        due("fault(0)", x.fault(0), 2);
        due("fault(1)", x.fault(1), 29);
        tell(x, "?");
        due("fault(0)", x.fault(0), 1);
        due("fault(1)", x.fault(1), 0);
        tell(x, HEAD);
        due("fault(0)", x.fault(0), 0);
        due("fault(1)", x.fault(1), -1);
        sentence("4", "NONE for others");
        tell(x, "?");
        for (int what : new int[] {-1, 2, 3, Integer.MIN_VALUE, Integer.MAX_VALUE}) {
            due("fault(" + what + ")", x.fault(what), -1);
        }
        sentence("4", "restoring and undoing don't read");
        x.image(0);
        x.hush(1);
        x.undo(1);
        x.restore(0);
        due("fault(0)", x.fault(0), 1);
    }

    static void heads() {
        sentence("3", "how many BEDS, 1 to 6");
        for (int n = 0; n <= 8; n++) {
            bounded("house beds " + n + " sounds 1 acts 1;", n, 1, 6, 11, 0);
        }
        bounded("house beds 100 sounds 1 acts 1;", 100, 1, 6, 11, 0);
        sentence("3", "SOUNDS, 1 to 6");
        for (int n = 0; n <= 8; n++) {
            bounded("house beds 1 sounds " + n + " acts 1;", n, 1, 6, 20, 2);
        }
        sentence("3", "ACTS, 1 to 4");
        for (int n = 0; n <= 6; n++) {
            bounded("house beds 1 sounds 1 acts " + n + ";", n, 1, 4, 27, 3);
        }
        bounded("house beds 1 sounds 1 acts 999;", 999, 1, 4, 27, 3);
    }

    /** A text with one N in it, which is counted if it is within its bounds. */
    static void bounded(String text, int n, int least, int most, int place, int counted) {
        if (n < least || n > most) {
            faultOf(text, 3, place);
        } else {
            SnorePlay x = of(text);
            due("count(" + counted + ") of " + text, x.count(counted), n);
        }
    }

    static void sleepersTold() {
        String head = "house beds 6 sounds 2 acts 1;";
        sentence("3", "sleeper: a BED (0 on to below how many there are)");
        for (int beds = 1; beds <= 6; beds++) {
            for (int bed = 0; bed <= 7; bed++) {
                String text = "house beds " + beds + " sounds 2 acts 1;sleeper bed " + bed + " dream 0;";
                if (bed < beds) {
                    due("sleeper(0, 0) of " + text, of(text).sleeper(0, 0), bed);
                } else {
                    faultOf(text, 3, 41);
                }
            }
        }
        sentence("3", "a BED nobody was told for");
        for (int bed = 0; bed < 6; bed++) {
            faultOf(head + "sleeper bed " + bed + " dream 0;sleeper bed " + bed + " dream 0;", 3, 63);
            faultOf(head + "sleeper bed " + bed + " dream 0;sleeper bed " + (bed + 1) % 6 + " dream 0;sleeper bed " + bed, 3, 85);
        }
        sentence("3", "a dream 0 to 9");
        for (int dream = 0; dream <= 11; dream++) {
            String text = head + "sleeper bed 0 dream " + dream + ";";
            if (dream <= 9) {
                due("sleeper(0, 1) of " + text, of(text).sleeper(0, 1), dream);
            } else {
                faultOf(text, 3, 49);
            }
        }
        sentence("3", "numbered from 0 on");
        SnorePlay x = of(head + "sleeper bed 5 dream 1;sleeper bed 0 dream 2;sleeper bed 3 dream 3;");
        due("sleeper(0, 0)", x.sleeper(0, 0), 5);
        due("sleeper(1, 0)", x.sleeper(1, 0), 0);
        due("sleeper(2, 0)", x.sleeper(2, 0), 3);
        due("sleeper(2, 1)", x.sleeper(2, 1), 3);
        sentence("3", "no more than BEDS: 4 the first TOKEN of a sleeper more than there are BEDS");
        for (int beds = 1; beds <= 6; beds++) {
            StringBuilder t = new StringBuilder("house beds " + beds + " sounds 1 acts 1;");
            for (int s = 0; s < beds; s++) {
                t.append("sleeper bed " + (beds - 1 - s) + " dream " + s + ";");
            }
            linesOf(t.toString(), beds + 1);
            due("count(1)", of(t.toString()).count(1), beds);
            faultOf(t + "sleeper bed 0 dream 0;", 4, t.length());
            faultOf(t + "hush 1;\n sleeper", 4, t.length() + 9);
            faultOf(t + "sleeper bed 1000", 4, t.length());
        }
    }

    static void opening() {
        String two = HEAD + "sleeper bed 0 dream 0;sleeper bed 1 dream 0;";
        sentence("3", "opens: a SLEEPER told ahead");
        due("count(4)", of(two + "opens 0 sound 0;").count(4), 0);
        due("count(4)", of(two + "opens 1 sound 0;").count(4), 1);
        faultOf(two + "opens 2 sound 0;", 3, 79);
        faultOf(HEAD + "opens 0 sound 0;sleeper bed 0 dream 0;", 3, 35);
        faultOf(HEAD + "sleeper bed 0 dream 0;opens 1 sound 0;sleeper bed 1 dream 0;", 3, 57);
        sentence("3", "without one SLEEPER 0, the SOUND 0");
        due("count(4)", of(two).count(4), 0);
        due("count(5)", of(two).count(5), 0);
        sentence("3", "opens: a SOUND of those there are");
        for (int sounds = 1; sounds <= 6; sounds++) {
            for (int sound = 0; sound <= 7; sound++) {
                String text = "house beds 1 sounds " + sounds + " acts 1;sleeper bed 0 dream 0;opens 0 sound " + sound + ";";
                if (sound < sounds) {
                    due("count(5) of " + text, of(text).count(5), sound);
                } else {
                    faultOf(text, 3, 65);
                }
            }
        }
        sentence("3", "the opening SOUND is no beat: it turns nothing");
        SnorePlay x = of(two + "turns 1;opens 0 sound 1;");
        due("count(6)", x.count(6), 0);
        due("count(7)", x.count(7), 0);
        due("count(9)", x.count(9), 0);
    }

    static void turning() {
        sentence("3", "turns: a SOUND of those there are");
        for (int sounds = 1; sounds <= 6; sounds++) {
            for (int sound = 0; sound <= 7; sound++) {
                String text = "house beds 2 sounds " + sounds + " acts 1;sleeper bed 0 dream 0;sleeper bed 1 dream 0;says:" + sound
                    + ";turns " + sound + ";";
                if (sound < sounds) {
                    due("by(0, 2) of " + text, of(text).by(0, 2), 1);
                } else {
                    faultOf(text, 3, 86);
                }
            }
        }
        sentence("3", "turns (0), without one");
        String text = "house beds 2 sounds 3 acts 1;sleeper bed 0 dream 0;sleeper bed 1 dream 0;says:";
        due("by(0, 2)", of(text + "0;").by(0, 2), 1);
        due("by(0, 2)", of(text + "1;").by(0, 2), 0);
        due("by(0, 2)", of(text + "2;").by(0, 2), 0);
    }

    static void hushTold() {
        sentence("3", "hush 0 to 9 (0)");
        due("count(8)", of(HEAD).count(8), 0);
        for (int hush = 0; hush <= 11; hush++) {
            String text = HEAD + "hush " + hush + ";";
            if (hush <= 9) {
                due("count(8) of " + text, of(text).count(8), hush);
            } else {
                faultOf(text, 3, 34);
            }
        }
    }

    static void laterOnes() {
        String two = "house beds 2 sounds 3 acts 2;sleeper bed 0 dream 0;sleeper bed 1 dream 0;";
        sentence("3", "later ones of opens strike");
        SnorePlay x = of(two + "opens 1 sound 2;opens 0 sound 1;");
        due("count(4)", x.count(4), 0);
        due("count(5)", x.count(5), 1);
        sentence("3", "later ones of turns strike");
        x = of(two + "turns 1;turns 2;says:1;");
        due("by(0, 2)", x.by(0, 2), 0);
        x = of(two + "turns 1;turns 2;says:2;");
        due("by(0, 2)", x.by(0, 2), 1);
        sentence("3", "later ones of hush strike");
        due("count(8)", of(two + "hush 5;hush 0;").count(8), 0);
        sentence("3", "later ones of answers strike");
        due("would(1)", of(two + "answers:7;answers:3;").would(1), 3);
        sentence("3", "later ones of says strike");
        due("by(0, 1)", of(two + "says:1;says:2;").by(0, 1), 2);
        sentence("3", "a FAULT in a later one is a FAULT");
        faultOf(HEAD + "hush 1;hush 10;", 3, 41);
        sentence("3", "lines in any order, laws ahead of sleepers, too");
        x = of("house beds 2 sounds 3 acts 2;says:who;answers:far;hush 2;turns 1;sleeper bed 1 dream 0;sleeper bed 0 dream 0;");
        due("would(1)", x.would(1), 1);
        due("by(0, 1)", x.by(0, 1), 1);
        due("by(0, 2)", x.by(0, 2), 1);
    }

    static void tokens() {
        sentence("4", "blanks (10, 32), words (small letters), N, the signs ; : + - * ( ) [ ] = < >; 1 no TOKEN begins so");
        for (int sign = 0; sign < 256; sign++) {
            String text = HEAD + (char) sign;
            boolean token = sign >= 'a' && sign <= 'z' || sign >= '0' && sign <= '9' || ";:+-*()[]=<>".indexOf(sign) >= 0;
            if (sign == 10 || sign == 32) {
                linesOf(text, 1);
            } else {
                faultOf(text, token ? 2 : 1, BEHIND_HEAD);
            }
        }
        sentence("4", "between them blanks: behind a word or an N, too");
        linesOf("\n\nhouse\nbeds  2\n sounds\n\n2 acts 1\n;\n hush\n3 ;\n\n", 2);
        faultOf(HEAD + "hush\t3;", 1, 33);
        faultOf(HEAD + "hush 3\r;", 1, 35);
        faultOf(HEAD + "hush 3_;", 1, 35);
        faultOf(HEAD + "hushX 3;", 1, 33);
    }

    static void longTokens() {
        sentence("4", "TOKENS, as long as they go on: words");
        faultOf(HEAD + "hushh 1;", 2, 29);
        faultOf(HEAD + "hus 1;", 2, 29);
        faultOf(HEAD + "h ush 1;", 2, 29);
        faultOf(HEAD + "sleeperbed 0 dream 0;", 2, 29);
        faultOf("houses beds 1;", 2, 0);
        linesOf("house beds1sounds1acts1;sleeper bed0dream0;", 2);
        sentence("4", "TOKENS, as long as they go on: N");
        faultOf(HEAD + "hush 1 0;", 2, 36);
        faultOf(HEAD + "sleeper bed 01 1 dream 0;", 2, 44);
        due("count(8)", of(HEAD + "hush 09;").count(8), 9);
        due("count(8)", of(HEAD + "hush 009;").count(8), 9);
        sentence("4", "N (1 to 3 digits)");
        SnorePlay x = of(HEAD + "sleeper bed 0 dream 0;answers:999;");
        due("would(0)", x.would(0), 999);
        due("would(0)", of(HEAD + "sleeper bed 0 dream 0;answers:000;").would(0), 0);
        due("would(0)", of(HEAD + "sleeper bed 0 dream 0;answers:42;").would(0), 42);
        sentence("4", "4 digits and more: at their first");
        faultOf(HEAD + "hush 0001;", 1, 34);
        faultOf(HEAD + "hush 00000000001;", 1, 34);
        faultOf(HEAD + "hush 1000x;", 1, 34);
        faultOf(HEAD + "says: 1+1000;", 1, 37);
        faultOf(HEAD + "says: 1+99999999999999999999;", 1, 37);
        faultOf("house beds 1000", 1, 11);
    }

    static void firstFault() {
        sentence("4", "FAULTS, the first along the text");
        faultOf(HEAD + "turns 9;?", 3, 35);
        faultOf(HEAD + "?turns 9;", 1, 29);
        faultOf(HEAD + "hush 10;lamp", 3, 34);
        faultOf(HEAD + "lamp;hush 10;", 2, 29);
        faultOf(HEAD + "says:(((((((1", 4, 40);
        faultOf(HEAD + "hush 10;says:(((((((1", 3, 34);
        faultOf(HEAD + "says:(((((((1;hush 10;", 4, 40);
        faultOf("house beds 9 sounds 9 acts 9;", 3, 11);
        faultOf("house beds 1 sounds 9 acts 9;", 3, 20);
        faultOf(HEAD + "sleeper bed 2 dream 10;", 3, 41);
        faultOf(HEAD + "sleeper bed 0 dream 10", 3, 49);
        faultOf(HEAD + "opens 5 sound 5;", 3, 35);
    }

    static void leastKind() {
        sentence("4", "of one TOKEN the least kind: 1 ahead of 2");
        faultOf(HEAD + "1000;", 1, 29);
        faultOf(HEAD + "hush hush", 2, 34);
        faultOf(HEAD + "hush ?", 1, 34);
        sentence("4", "of one TOKEN the least kind: 1 ahead of 3");
        faultOf(HEAD + "hush 1000;", 1, 34);
        sentence("4", "of one TOKEN the least kind: 2 ahead of 3");
        faultOf(HEAD + "hush 1 999;", 2, 36);
        faultOf(HEAD + "turns sound 9;", 2, 35);
        sentence("4", "of one TOKEN the least kind: 2 ahead of 4");
        String full = "house beds 1 sounds 2 acts 1;sleeper bed 0 dream 0;";
        faultOf(full + "turns sleeper bed 0 dream 0;", 2, 57);
        faultOf(full + "hush 0 sleeper", 2, 58);
        faultOf(HEAD + "says:((((((1(", 2, 41);
        faultOf(HEAD + "says:((((((1[", 2, 41);
        faultOf(HEAD + "says:((((((1 not", 2, 42);
        faultOf(HEAD + "says:((((((1 if", 2, 42);
        faultOf(HEAD + "says:(((((([", 2, 40);
        faultOf(HEAD + "says:((((((not", 2, 40);
        faultOf(HEAD + "(((((((", 2, 29);
    }

    static void theEnd() {
        sentence("4", "2 (the end: the text's length)");
        String[] all = ("house beds 3 sounds 2 acts 1 ; sleeper bed 0 dream 0 ; sleeper bed 1 dream 9 ; opens 1 sound 1 ; turns 0 ; hush 9 ; "
            + "answers : 1 + 2 * ( who - 3 ) ; says : if not 1 = 2 and [ sound < 3 or far > 1 ] then act else last end + dream * hush ;")
            .split(" ");
        StringBuilder t = new StringBuilder();
        int lines = 0;
        for (String token : all) {
            if (t.length() > 0 && t.charAt(t.length() - 1) == ';') {
                linesOf(t + "  ", ++lines);
            } else {
                faultOf(t.toString(), 2, t.length());
                faultOf(t + " \n", 2, t.length() + 2);
            }
            t.append(t.length() == 0 ? "" : " ").append(token);
        }
        linesOf(t.toString(), 8);
    }

    static void houseFirstAndOnce() {
        sentence("4", "house must be told first");
        for (String line : new String[] {"sleeper bed 0 dream 0;", "opens 0 sound 0;", "turns 0;", "hush 0;", "answers:1;", "says:1;", ";", "beds"}) {
            faultOf(line + HEAD, 2, 0);
        }
        sentence("4", "and once");
        faultOf(HEAD + HEAD, 2, 29);
        faultOf(HEAD + "turns 0;" + HEAD, 2, 37);
    }

    static void within() {
        String six = HEAD + "says:if not not not not not ";
        sentence("4", "a seventh of not [ ( if");
        faultOf(six + "not 1=1 then 1 else 1 end;", 4, six.length());
        faultOf(six + "[1=1] then 1 else 1 end;", 4, six.length());
        faultOf(six + "(1)=1 then 1 else 1 end;", 4, six.length());
        faultOf(six + "if 1=1 then 1 else 1 end=1 then 1 else 1 end;", 4, six.length());
        faultOf(HEAD + "answers:((((((if 1=1 then 1 else 1 end))))));", 4, 43);
        faultOf(HEAD + "answers:if [[[[[[1=1]]]]]] then 1 else 1 end;", 4, 45);
        faultOf(HEAD + "says:if 1=1 then ((((((1)))))) else 1 end;", 4, 51);
        faultOf(HEAD + "says:if 1=1 then 1 else ((((((1)))))) end;", 4, 58);
        faultOf(HEAD + "says:((((((1))))))+(((((((1)))))));", 4, 54);
        sentence("4", "At most six of not [ ( if within one another");
        String five = HEAD + "says:if not not not not ";
        linesOf(five + "not 1=1 then 1 else 1 end;", 2);
        linesOf(five + "[1=1] then 1 else 1 end;", 2);
        linesOf(five + "(1)=1 then 1 else 1 end;", 2);
        linesOf(five + "if 1=1 then 1 else 1 end=1 then 1 else 1 end;", 2);
        linesOf(six + "1=1 then 1 else 1 end;", 2);
        linesOf(HEAD + "answers:(((((if 1=1 then 1 else 1 end)))));", 2);
        linesOf(HEAD + "answers:((((((1))))));", 2);
        linesOf(HEAD + "answers:if [[[[[1=1]]]]] then 1 else 1 end;", 2);
        sentence("4", "within one another: side by side they don't add");
        linesOf(HEAD + "says:((((((1))))))+((((((2))))))*((((((3))))));", 2);
        linesOf(HEAD + "says:if 1=1 then (((((1))))) else (((((1))))) end+((((((1))))));", 2);
        linesOf(HEAD + "says:if not not not not not 1=1 and not not not not not 1=1 or [[[[[1=1]]]]] then 1 else 1 end;", 2);
        linesOf(HEAD + "says:if (((((1)))))=(((((1))))) then 1 else 1 end;", 2);
        linesOf(HEAD + "says:((((((1))))));answers:((((((1))))));", 3);
        linesOf(HEAD + "says:(1)+(1)+(1)+(1)+(1)+(1)+(1)+(1);", 2);
    }

    static void grammar() {
        sentence("4", "2 it can't stand there: each LINE");
        faultOf(HEAD + "sleeper 0", 2, 37);
        faultOf(HEAD + "sleeper bed dream", 2, 41);
        faultOf(HEAD + "sleeper bed 0 0", 2, 43);
        faultOf(HEAD + "sleeper bed 0 dream ;", 2, 49);
        faultOf(HEAD + "sleeper bed 0 dream 0 0", 2, 51);
        faultOf(HEAD + "sleeper dream 0 bed 0;", 2, 37);
        faultOf(HEAD + "sleeper bed 0 dream 0;opens sound", 2, 57);
        faultOf(HEAD + "sleeper bed 0 dream 0;opens 0;", 2, 58);
        faultOf(HEAD + "sleeper bed 0 dream 0;opens 0 sound;", 2, 64);
        faultOf(HEAD + "turns;", 2, 34);
        faultOf(HEAD + "hush:1;", 2, 33);
        faultOf(HEAD + "answers 1;", 2, 37);
        faultOf(HEAD + "says;", 2, 33);
        faultOf(HEAD + "says:;", 2, 34);
        faultOf("house sounds 1 beds 1 acts 1;", 2, 6);
        faultOf("house beds 1 acts 1;", 2, 13);
        faultOf("house beds 1 sounds 1;", 2, 21);
        faultOf("house beds 1 sounds 1 acts 1 turns 0;", 2, 29);
        sentence("4", "2 it can't stand there: SUM, TERM, ATOM");
        faultOf(HEAD + "says:+1;", 2, 34);
        faultOf(HEAD + "says:1+;", 2, 36);
        faultOf(HEAD + "says:1**1;", 2, 36);
        faultOf(HEAD + "says:1-*1;", 2, 36);
        faultOf(HEAD + "says:1 who;", 2, 36);
        faultOf(HEAD + "says:();", 2, 35);
        faultOf(HEAD + "says:(1;", 2, 36);
        faultOf(HEAD + "says:1);", 2, 35);
        faultOf(HEAD + "says:(1];", 2, 36);
        faultOf(HEAD + "says:1=1;", 2, 35);
        faultOf(HEAD + "says:[1];", 2, 34);
        faultOf(HEAD + "says:not 1;", 2, 34);
        faultOf(HEAD + "says:bed;", 2, 34);
        faultOf(HEAD + "says:1:1;", 2, 35);
        sentence("4", "2 it can't stand there: TRUTH, BOTH, UNIT");
        faultOf(HEAD + "says:if then 1 else 1 end;", 2, 37);
        faultOf(HEAD + "says:if 1 then 1 else 1 end;", 2, 39);
        faultOf(HEAD + "says:if 1=then 1 else 1 end;", 2, 39);
        faultOf(HEAD + "says:if =1 then 1 else 1 end;", 2, 37);
        faultOf(HEAD + "says:if 1=1 and then 1 else 1 end;", 2, 45);
        faultOf(HEAD + "says:if or 1=1 then 1 else 1 end;", 2, 37);
        faultOf(HEAD + "says:if 1=1 not 1=1 then 1 else 1 end;", 2, 41);
        faultOf(HEAD + "says:if [1=1 then 1 else 1 end;", 2, 42);
        faultOf(HEAD + "says:if [1=1) then 1 else 1 end;", 2, 41);
        faultOf(HEAD + "says:if (1=1) then 1 else 1 end;", 2, 39);
        faultOf(HEAD + "says:if 1<1>1 then 1 else 1 end;", 2, 40);
        faultOf(HEAD + "says:if [1=1]=1 then 1 else 1 end;", 2, 42);
        faultOf(HEAD + "says:if 1=1 else 1 end;", 2, 41);
        faultOf(HEAD + "says:if 1=1 then 1 end;", 2, 48);
        faultOf(HEAD + "says:if 1=1 then 1 else 1;", 2, 54);
        faultOf(HEAD + "says:if 1=1 then else 1 end;", 2, 46);
    }
}
