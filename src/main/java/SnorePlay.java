import java.util.Arrays;

/**
 * An almshouse told as a text, whose sleepers answer one another by snoring. The numbered promises that
 * this class keeps stand in the project's document.
 */
public final class SnorePlay {
    public static final int NONE = -1;

    private static final int NO_SUCH = -2;
    private static final int BAD_NUMBER = -3;
    private static final int TOO_MANY = -4;
    private static final int NOT_NOW = -5;
    private static final int MISSING = -6;
    private static final int NO_PLACE = -7;
    private static final int WHY_NOT = -10;
    private static final int TEXT_FAULT = -30;
    private static final int NO_AMOUNT = -99000002;

    private static final int MOST_TEXT = 900;
    private static final int MOST_SLEEPERS = 6;
    private static final int MOST_SOUNDS = 6;
    private static final int MOST_ACTS = 4;
    private static final int DIGITS = 10;
    private static final int LOTS = 10;
    private static final int MOST_HEARD = 8;

    // A node is a moment of the play as one number: the act, the sound and who snored last; all moments in
    // which it is still are one node for each act, since no beat follows them.
    private static final int NODES_AN_ACT = MOST_SOUNDS * MOST_SLEEPERS;
    private static final int PLAIN_NODES = NODES_AN_ACT * (MOST_ACTS + 1);
    private static final int ALL_NODES = PLAIN_NODES + MOST_ACTS + 1;

    private final byte[] tape = new byte[MOST_TEXT];
    private int taped;
    private int latestFault;
    private int latestPlace = NONE;
    private int housesRead;
    private int drawn;

    private final Reader reader = new Reader();
    private final Stage stage = new Stage();
    private final Graph graph;
    private final Search search;
    private final Tally tally;
    private final Placer placer;
    private final Play play;
    private final Play trial;
    private final Past past;
    private final Tray[] trays = new Tray[4];
    private final Play[] images = new Play[2];
    private final boolean[] imageMade = new boolean[2];
    private final int[] groupSizes = new int[NODES_AN_ACT + 1];

    public SnorePlay() {
        House empty = new House(0);
        play = new Play(empty);
        trial = new Play(empty);
        graph = new Graph(stage, new Play(empty));
        search = new Search(graph);
        tally = new Tally(graph);
        placer = new Placer(stage, new Play(empty));
        past = new Past(empty);
        for (int i = 0; i < trays.length; i++) {
            trays[i] = new Tray();
        }
        for (int i = 0; i < images.length; i++) {
            images[i] = new Play(empty);
        }
    }

    // ---- the house

    public int feed(int a, int b, int c, int d, int e) {
        if (taped + 20 > MOST_TEXT) {
            return NOT_NOW;
        }
        putOnTape(a);
        putOnTape(b);
        putOnTape(c);
        putOnTape(d);
        putOnTape(e);
        return taped;
    }

    private void putOnTape(int four) {
        for (int shift = 24; shift >= 0 && taped < tape.length; shift -= 8) {
            tape[taped] = (byte) (four >> shift);
            taped++;
        }
    }

    public int house(int n) {
        if (n < 0 || n > taped) {
            return BAD_NUMBER;
        }
        House told = reader.readText(tape, n, housesRead + 1);
        taped = 0;
        latestFault = reader.faultKind();
        latestPlace = reader.faultPlace();
        if (told == null) {
            return TEXT_FAULT - latestFault;
        }
        housesRead++;
        play.open(told);
        past.forget();
        return told.lines;
    }

    public int fault(int what) {
        if (what == 0) {
            return latestFault;
        }
        return what == 1 ? latestPlace : NONE;
    }

    public int sleeper(int s, int what) {
        if (!play.has(s) || what < 0 || what > 1) {
            return NO_SUCH;
        }
        return what == 0 ? play.bedOf[s] : play.dreamOf[s];
    }

    public int would(int s) {
        return play.has(s) ? stage.amount(play, s) : NO_AMOUNT;
    }

    public int by(int deed, int what) {
        if (what < 0 || what > 2) {
            return NO_SUCH;
        }
        if (!Stage.isBeat(deed) || stage.whyNot(play, deed) != 0) {
            return NOT_NOW;
        }
        trial.takeFrom(play);
        int who = stage.step(trial, deed - 1);
        if (what == 0) {
            return who;
        }
        return what == 1 ? trial.sound : trial.act;
    }

    // ---- deeds

    public int beat(int deed) {
        int why = Stage.isBeat(deed) ? stage.whyNot(play, deed) : 1;
        if (why != 0) {
            return WHY_NOT - why;
        }
        past.keep(play);
        return stage.step(play, deed - 1);
    }

    public int beats(int n) {
        if (n < 1 || n > 99) {
            return BAD_NUMBER;
        }
        if (!play.goesOn()) {
            return 0;
        }
        past.keep(play);
        int snored = 0;
        for (int i = 0; i < n && play.goesOn(); i++) {
            if (stage.step(play, NONE) != NONE) {
                snored++;
            }
        }
        return snored;
    }

    public int change(int s, int other) {
        if (!play.has(s) || !play.has(other) || s == other) {
            return WHY_NOT - 1;
        }
        past.keep(play);
        play.swapBeds(s, other);
        return play.bedOf[s];
    }

    public int dream(int s, int n) {
        if (!play.has(s) || n < 0 || n >= DIGITS) {
            return WHY_NOT - 1;
        }
        past.keep(play);
        int had = play.dreamOf[s];
        play.dreamOf[s] = n;
        return had;
    }

    public int hush(int n) {
        if (n < 0 || n >= DIGITS) {
            return WHY_NOT - 1;
        }
        past.keep(play);
        int was = play.hush;
        play.hush = n;
        return was;
    }

    public int undo(int n) {
        if (n < 1 || n > past.kept) {
            return BAD_NUMBER;
        }
        past.bringBack(play, n);
        return past.kept;
    }

    public int judge(int tray, int what) {
        if (what < 0 || what > 3) {
            return NO_SUCH;
        }
        int refusal = trayRefusal(tray);
        if (refusal != 0) {
            return refusal;
        }
        trial.takeFrom(play);
        int done = enactAll(trial, trays[tray]);
        boolean all = done >= trays[tray].size;
        switch (what) {
            case 0:
                return all ? NONE : done;
            case 1:
                return all ? 0 : stage.whyNot(trial, trays[tray].held[done]);
            case 2:
                return trial.last;
            default:
                return 10 * trial.act + trial.sound;
        }
    }

    public int perform(int tray) {
        int refusal = trayRefusal(tray);
        if (refusal != 0) {
            return refusal;
        }
        trial.takeFrom(play);
        int done = enactAll(play, trays[tray]);
        if (done > 0) {
            past.keep(trial);
        }
        return done;
    }

    public int night(int seed, int times) {
        if (times < 1 || times > 40) {
            return BAD_NUMBER;
        }
        trial.takeFrom(play);
        drawn = seed;
        int done = 0;
        for (int i = 0; i < times; i++) {
            int deed = drawDeed();
            if (stage.whyNot(play, deed) == 0) {
                stage.enact(play, deed);
                done++;
            }
        }
        if (done > 0) {
            past.keep(trial);
        }
        return done;
    }

    private int draw(int modulo) {
        drawn = 1103515245 * drawn + 12345;
        return rest(drawn >>> 16, modulo);
    }

    private int drawDeed() {
        int sort = draw(6);
        if (sort < 2) {
            return 0;
        }
        if (sort == 2) {
            return draw(7);
        }
        if (sort == 3) {
            return 10 + draw(10);
        }
        int s = draw(6);
        return sort == 4 ? 100 + 10 * s + draw(6) : 200 + 10 * s + draw(10);
    }

    /** What is left of a number by a divisor, 0 or more for numbers below 0, too. */
    private static int rest(int v, int divisor) {
        return divisor < 1 ? 0 : Math.floorMod(v, divisor);
    }

    /** Does the deeds of a tray till one can't be, and tells how many were done. */
    private int enactAll(Play on, Tray deeds) {
        for (int i = 0; i < deeds.size; i++) {
            if (stage.whyNot(on, deeds.held[i]) != 0) {
                return i;
            }
            stage.enact(on, (int) deeds.held[i]);
        }
        return deeds.size;
    }

    private int trayRefusal(int tray) {
        if (tray < 0 || tray >= trays.length) {
            return NO_SUCH;
        }
        return trays[tray].missing ? MISSING : 0;
    }

    // ---- left alone

    public int goes(int what) {
        if (what < 0 || what > 1) {
            return NO_SUCH;
        }
        graph.prepare(play);
        graph.leaveAlone();
        boolean forEver = graph.loop != NONE;
        if (what == 1) {
            return forEver ? NONE : graph.steps;
        }
        if (forEver) {
            return 2;
        }
        return graph.isEnd(graph.path[graph.steps]) ? 0 : 1;
    }

    public int lies(int n) {
        if (n < 1 || n > 99999) {
            return BAD_NUMBER;
        }
        graph.prepare(play);
        graph.leaveAlone();
        return graph.snorerAlone(n);
    }

    public int round(int what) {
        if (what < 0 || what > 1) {
            return NO_SUCH;
        }
        graph.prepare(play);
        graph.leaveAlone();
        if (graph.loop == NONE) {
            return NONE;
        }
        return what == 0 ? graph.loop : graph.steps - graph.loop;
    }

    // ---- woken

    public int soonest(int what) {
        if (what < 0 || what > 1) {
            return NO_SUCH;
        }
        graph.prepare(play);
        return search.fewest(what == 1);
    }

    public int way(int what, int i) {
        if (what < 0 || what > 1) {
            return NO_SUCH;
        }
        if (i < 0) {
            return BAD_NUMBER;
        }
        graph.prepare(play);
        return search.fewestDeed(what == 1, i);
    }

    public long rows(int what, int n) {
        if (what < 0 || what > 2) {
            return NO_SUCH;
        }
        if (n < 0 || n > 10) {
            return BAD_NUMBER;
        }
        graph.prepare(play);
        return tally.rowsOf(what, n);
    }

    public int keeps() {
        if (!play.goesOn()) {
            return NOT_NOW;
        }
        graph.prepare(play);
        return search.longest();
    }

    public int keeping(int i) {
        if (i < 0 || i > 99) {
            return BAD_NUMBER;
        }
        if (!play.goesOn()) {
            return NOT_NOW;
        }
        graph.prepare(play);
        return search.longestDeed(i);
    }

    public int heardOf() {
        graph.prepare(play);
        return search.snorers();
    }

    // ---- beds, gaps

    public int placing(int what) {
        if (what != 0 && (what < 10 || !play.has(what - 10))) {
            return NO_SUCH;
        }
        placer.place(play);
        if (what == 0 || placer.fewest == NONE) {
            return placer.fewest;
        }
        return placer.firstOrder[what - 10];
    }

    public int fills(int s) {
        if (!play.has(s)) {
            return NO_SUCH;
        }
        int dreams = 0;
        for (int n = 0; n < DIGITS; n++) {
            trial.takeFrom(play);
            trial.dreamOf[s] = n;
            if (stage.endsIn(trial, PLAIN_NODES) != NONE) {
                dreams |= 1 << n;
            }
        }
        return dreams;
    }

    // ---- heard, said

    public long heard(int tray) {
        int refusal = heardRefusal(tray);
        if (refusal != 0) {
            return refusal;
        }
        graph.prepare(play);
        tally.listen(trays[tray]);
        return tally.heardRows();
    }

    public int heardBy(int tray, int i) {
        int refusal = heardRefusal(tray);
        if (refusal != 0) {
            return refusal;
        }
        if (i < 0) {
            return BAD_NUMBER;
        }
        graph.prepare(play);
        tally.listen(trays[tray]);
        return tally.firstHeardDeed(trays[tray], i);
    }

    public int suspects(int tray, int i) {
        int refusal = heardRefusal(tray);
        if (refusal != 0) {
            return refusal;
        }
        if (i < 0) {
            return BAD_NUMBER;
        }
        if (i >= trays[tray].size) {
            return NO_PLACE;
        }
        graph.prepare(play);
        tally.listen(trays[tray]);
        return tally.heardSnorers(trays[tray], i);
    }

    public int hushes(int tray) {
        int refusal = saidRefusal(tray);
        return refusal != 0 ? refusal : hushesBy(trays[tray]);
    }

    public int attempt(int tray) {
        int refusal = saidRefusal(tray);
        if (refusal != 0) {
            return refusal;
        }
        int left = hushesBy(trays[tray]);
        if (left == 0) {
            return NONE;
        }
        int chosen = 0;
        int least = largestGroup(left, 0);
        for (int deed = 1; deed <= play.house.sleepers; deed++) {
            int largest = largestGroup(left, deed);
            if (largest < least) {
                least = largest;
                chosen = deed;
            }
        }
        return chosen;
    }

    private int heardRefusal(int tray) {
        int refusal = trayRefusal(tray);
        return refusal != 0 ? refusal : trays[tray].rowRefusal(NONE, play.house.sounds);
    }

    private int saidRefusal(int tray) {
        int refusal = trayRefusal(tray);
        return refusal != 0 ? refusal : trays[tray].rowRefusal(0, play.house.sleepers);
    }

    private int hushesBy(Tray said) {
        int fitting = 0;
        for (int n = 0; n < DIGITS; n++) {
            trial.takeFrom(play);
            trial.hush = n;
            int i = 0;
            while (i < said.size && trial.goesOn() && stage.step(trial, NONE) == said.held[i]) {
                i++;
            }
            if (i == said.size) {
                fitting |= 1 << n;
            }
        }
        return fitting;
    }

    /** Of some hushes the greatest number by which the same is heard of the same one in a beat now. */
    private int largestGroup(int hushesLeft, int deed) {
        Arrays.fill(groupSizes, 0);
        int largest = 0;
        for (int n = 0; n < DIGITS; n++) {
            if ((hushesLeft >> n & 1) != 0) {
                trial.takeFrom(play);
                trial.hush = n;
                int who = trial.goesOn() ? stage.step(trial, deed - 1) : NONE;
                int group = who == NONE ? NODES_AN_ACT : trial.sound * MOST_SLEEPERS + who;
                groupSizes[group]++;
                largest = Math.max(largest, groupSizes[group]);
            }
        }
        return largest;
    }

    // ---- by turns

    public int forces() {
        graph.prepare(play);
        return search.forcedIn();
    }

    public int best() {
        graph.prepare(play);
        return search.forcingDeed();
    }

    // ---- chances

    public int chance(int n, int what) {
        return portion(n, what, false);
    }

    public int mean(int n, int what) {
        return portion(n, what, true);
    }

    private int portion(int n, int what, boolean ofActs) {
        if (what < 0 || what > 1) {
            return NO_SUCH;
        }
        if (n < 0 || n > 7) {
            return BAD_NUMBER;
        }
        graph.prepare(play);
        tally.drawLots(n);
        long above = ofActs ? tally.actsDrawn() : tally.endsDrawn();
        long below = 1;
        for (int i = 0; i < n; i++) {
            below *= LOTS;
        }
        long common = Tally.commonDivisor(above, below);
        if (common < 1) {
            return NONE;
        }
        return (int) ((what == 0 ? above : below) / common);
    }

    // ---- trays, images

    public int numbers(int tray, int sort, int n) {
        if (tray < 0 || tray >= trays.length || sort < 0 || sort > 3) {
            return NO_SUCH;
        }
        if (n < 0 || n > Tray.MOST) {
            return BAD_NUMBER;
        }
        trays[tray].lay(sort, n);
        return 0;
    }

    public long write(int tray, int i, long v) {
        int refusal = trayRefusal(tray);
        if (refusal != 0) {
            return refusal;
        }
        if (i < 0 || i >= trays[tray].size) {
            return NO_PLACE;
        }
        return trays[tray].put(i, v);
    }

    public int lists(int tray, int what) {
        if (what < 0 || what > 1) {
            return NO_SUCH;
        }
        int refusal = trayRefusal(tray);
        if (refusal != 0) {
            return refusal;
        }
        trial.takeFrom(play);
        int listed = 0;
        while (listed < trays[tray].size && trial.goesOn() && stage.step(trial, NONE) != NONE) {
            trays[tray].put(listed, what == 0 ? trial.last : trial.sound);
            listed++;
        }
        return listed;
    }

    public int image(int i) {
        if (i < 0 || i >= images.length) {
            return NO_SUCH;
        }
        images[i].takeFrom(play);
        imageMade[i] = true;
        return 0;
    }

    public int restore(int i) {
        if (i < 0 || i >= images.length) {
            return NO_SUCH;
        }
        if (!imageMade[i]) {
            return NOT_NOW;
        }
        play.takeFrom(images[i]);
        past.forget();
        return 0;
    }

    public int count(int what) {
        switch (what) {
            case 0:
                return play.house.beds;
            case 1:
                return play.house.sleepers;
            case 2:
                return play.house.sounds;
            case 3:
                return play.house.acts;
            case 4:
                return play.last;
            case 5:
                return play.sound;
            case 6:
                return play.act;
            case 7:
                return play.goesOn() ? 0 : play.still ? 2 : 1;
            case 8:
                return play.hush;
            case 9:
                return play.snored;
            case 10:
                return past.kept;
            case 11:
                return taped;
            case 12:
                return play.house.lines;
            default:
                return NONE;
        }
    }

    /** What a text tells; never changed once it has been read, so that plays and images can share it. */
    private static final class House {
        // Tells apart the houses that one object has read, so that what was worked out for one isn't used
        // for another.
        final int serial;
        int beds = 1;
        int sounds = 1;
        int acts = 1;
        int sleepers;
        final int[] bedOf = new int[MOST_SLEEPERS];
        final int[] dreamOf = new int[MOST_SLEEPERS];
        int openingLast;
        int openingSound;
        int turningSound;
        int hush;
        int lines;
        int[] answers;
        int[] says;

        House(int serial) {
            this.serial = serial;
        }

        boolean hasTold(int bed) {
            for (int s = 0; s < sleepers; s++) {
                if (bedOf[s] == bed) {
                    return true;
                }
            }
            return false;
        }
    }

    /** A house and all that deeds change: what a call can bring back, and what an image holds. */
    private static final class Play {
        House house;
        final int[] bedOf = new int[MOST_SLEEPERS];
        final int[] dreamOf = new int[MOST_SLEEPERS];
        int hush;
        int last;
        int sound;
        int act;
        int snored;
        boolean still;

        Play(House told) {
            open(told);
        }

        void open(House told) {
            house = told;
            System.arraycopy(told.bedOf, 0, bedOf, 0, MOST_SLEEPERS);
            System.arraycopy(told.dreamOf, 0, dreamOf, 0, MOST_SLEEPERS);
            hush = told.hush;
            still = told.sleepers == 0;
            last = still ? NONE : told.openingLast;
            sound = told.openingSound;
            act = 0;
            snored = 0;
        }

        void takeFrom(Play other) {
            house = other.house;
            System.arraycopy(other.bedOf, 0, bedOf, 0, MOST_SLEEPERS);
            System.arraycopy(other.dreamOf, 0, dreamOf, 0, MOST_SLEEPERS);
            hush = other.hush;
            last = other.last;
            sound = other.sound;
            act = other.act;
            snored = other.snored;
            still = other.still;
        }

        boolean has(int s) {
            return s >= 0 && s < house.sleepers;
        }

        boolean hasEnded() {
            return act >= house.acts;
        }

        boolean goesOn() {
            return !still && !hasEnded();
        }

        int far(int who) {
            return last == NONE ? 0 : Math.abs(bedOf[who] - bedOf[last]);
        }

        void swapBeds(int s, int other) {
            int bed = bedOf[s];
            bedOf[s] = bedOf[other];
            bedOf[other] = bed;
        }

        int node() {
            return still ? PLAIN_NODES + act : (act * MOST_SOUNDS + sound) * MOST_SLEEPERS + last;
        }

        void standAt(int node) {
            last = node % MOST_SLEEPERS;
            sound = node / MOST_SLEEPERS % MOST_SOUNDS;
            act = node / NODES_AN_ACT;
            still = false;
        }

        /** House, beds, dreams and hush as one number: beats from the same node go alike while it is the same. */
        long setting() {
            long told = house.serial;
            for (int s = 0; s < MOST_SLEEPERS; s++) {
                told = told << 7 | bedOf[s] << 4 | dreamOf[s];
            }
            return told << 4 | hush;
        }
    }

    /** The calls that can be undone, as the plays ahead of them; the eldest gives way. */
    private static final class Past {
        private final Play[] ring = new Play[10];
        private int next;
        int kept;

        Past(House empty) {
            for (int i = 0; i < ring.length; i++) {
                ring[i] = new Play(empty);
            }
        }

        void forget() {
            kept = 0;
        }

        void keep(Play before) {
            ring[next].takeFrom(before);
            next = (next + 1) % ring.length;
            kept = Math.min(kept + 1, ring.length);
        }

        void bringBack(Play play, int calls) {
            next = Math.floorMod(next - calls, ring.length);
            kept -= calls;
            play.takeFrom(ring[next]);
        }
    }

    /** Numbers of one sort, or missing. */
    private static final class Tray {
        static final int MOST = 40;

        boolean missing = true;
        private int sort;
        int size;
        final long[] held = new long[MOST];

        void lay(int newSort, int n) {
            missing = false;
            sort = newSort;
            size = n;
            Arrays.fill(held, 0L);
        }

        long put(int i, long v) {
            long cut = v;
            if (sort == 0) {
                cut = (byte) v;
            } else if (sort == 1) {
                cut = (short) v;
            } else if (sort == 2) {
                cut = (int) v;
            }
            held[i] = cut;
            return cut;
        }

        /** Why it can't tell one beat after another by numbers from the least to below the bound. */
        int rowRefusal(int least, int bound) {
            if (size < 1 || size > MOST_HEARD) {
                return TOO_MANY;
            }
            for (int i = 0; i < size; i++) {
                if (held[i] < least || held[i] >= bound) {
                    return BAD_NUMBER;
                }
            }
            return 0;
        }
    }

    /** A text as tokens, one looked at at a time, and the first fault that was found along it. */
    private static final class Tokens {
        private static final int WORD = 0;
        private static final int NUMBER = 1;
        private static final int SIGN = 2;
        private static final int WRONG = 3;
        private static final int END = 4;
        private static final String SIGNS = ";:+-*()[]=<>";

        private byte[] text = new byte[0];
        private int length;
        private int kind;
        private int start;
        private int stop;
        private int number;
        private int fault;
        private int place;

        void begin(byte[] told, int n) {
            text = told;
            length = n;
            stop = 0;
            fault = 0;
            place = NONE;
            advance();
        }

        boolean isFaultless() {
            return fault == 0;
        }

        boolean atEnd() {
            return kind == END;
        }

        boolean isNumber() {
            return kind == NUMBER;
        }

        boolean is(String token) {
            if ((kind != WORD && kind != SIGN) || stop - start != token.length()) {
                return false;
            }
            for (int i = 0; i < token.length(); i++) {
                if (text[start + i] != token.charAt(i)) {
                    return false;
                }
            }
            return true;
        }

        void refuse(int faultKind) {
            if (fault == 0) {
                fault = kind == WRONG ? 1 : faultKind;
                place = start;
            }
        }

        /** Goes behind a token that must stand here. */
        void want(String token) {
            if (fault != 0) {
                return;
            }
            if (is(token)) {
                advance();
            } else {
                refuse(2);
            }
        }

        /** Goes behind a number that must stand here, from the least to the most. */
        int wantNumber(int least, int most) {
            if (fault != 0) {
                return least;
            }
            if (kind != NUMBER) {
                refuse(2);
                return least;
            }
            if (number < least || number > most) {
                refuse(3);
                return least;
            }
            int told = number;
            advance();
            return told;
        }

        void advance() {
            start = stop;
            while (start < length && (text[start] == 10 || text[start] == 32)) {
                start++;
            }
            stop = start;
            if (start >= length) {
                kind = END;
                return;
            }
            byte sign = text[start];
            if (sign >= 'a' && sign <= 'z') {
                kind = WORD;
                while (stop < length && text[stop] >= 'a' && text[stop] <= 'z') {
                    stop++;
                }
            } else if (sign >= '0' && sign <= '9') {
                number = 0;
                while (stop < length && text[stop] >= '0' && text[stop] <= '9') {
                    number = stop - start < 3 ? number * 10 + text[stop] - '0' : number;
                    stop++;
                }
                kind = stop - start > 3 ? WRONG : NUMBER;
            } else {
                kind = SIGNS.indexOf((char) (sign & 255)) >= 0 ? SIGN : WRONG;
                stop++;
            }
        }
    }

    /**
     * Reads a text into a house. A law becomes a row of codes for a machine with a stack: numbers as
     * themselves, all else by the codes below 0; behind a skip stands where to.
     */
    private static final class Reader {
        static final int WHO = -1;
        static final int LAST = -2;
        static final int SOUND = -3;
        static final int FAR = -4;
        static final int ACT = -5;
        static final int DREAM = -6;
        static final int HUSH = -7;
        static final int PLUS = -8;
        static final int MINUS = -9;
        static final int TIMES = -10;
        static final int EQUAL = -11;
        static final int LESS = -12;
        static final int MORE = -13;
        static final int NOT = -14;
        static final int AND = -15;
        static final int OR = -16;
        static final int SKIP = -17;
        static final int SKIP_UNLESS = -18;
        private static final int MOST_WITHIN = 6;

        private final Tokens tokens = new Tokens();
        // No token makes more codes than it has signs, so a law can't be longer than the text.
        private final int[] codes = new int[MOST_TEXT];
        private int size;
        private House draft = new House(0);

        int faultKind() {
            return tokens.fault;
        }

        int faultPlace() {
            return tokens.place;
        }

        /** The house, or null with a fault. */
        House readText(byte[] text, int n, int serial) {
            tokens.begin(text, n);
            draft = new House(serial);
            readHead();
            for (int i = 0; i < MOST_TEXT && tokens.isFaultless() && !tokens.atEnd(); i++) {
                readLine();
            }
            return tokens.isFaultless() ? draft : null;
        }

        private void readHead() {
            tokens.want("house");
            tokens.want("beds");
            draft.beds = tokens.wantNumber(1, MOST_SLEEPERS);
            tokens.want("sounds");
            draft.sounds = tokens.wantNumber(1, MOST_SOUNDS);
            tokens.want("acts");
            draft.acts = tokens.wantNumber(1, MOST_ACTS);
            tokens.want(";");
            draft.lines = 1;
        }

        private void readLine() {
            if (tokens.is("sleeper")) {
                readSleeper();
            } else if (tokens.is("opens")) {
                tokens.advance();
                draft.openingLast = tokens.wantNumber(0, draft.sleepers - 1);
                tokens.want("sound");
                draft.openingSound = tokens.wantNumber(0, draft.sounds - 1);
            } else if (tokens.is("turns")) {
                tokens.advance();
                draft.turningSound = tokens.wantNumber(0, draft.sounds - 1);
            } else if (tokens.is("hush")) {
                tokens.advance();
                draft.hush = tokens.wantNumber(0, DIGITS - 1);
            } else if (tokens.is("answers")) {
                draft.answers = readLaw();
            } else if (tokens.is("says")) {
                draft.says = readLaw();
            } else {
                tokens.refuse(2);
            }
            tokens.want(";");
            draft.lines++;
        }

        private void readSleeper() {
            if (draft.sleepers >= draft.beds || draft.sleepers >= MOST_SLEEPERS) {
                tokens.refuse(4);
                return;
            }
            tokens.advance();
            tokens.want("bed");
            if (tokens.isNumber() && draft.hasTold(tokens.number)) {
                tokens.refuse(3);
            }
            int bed = tokens.wantNumber(0, draft.beds - 1);
            tokens.want("dream");
            int dreamt = tokens.wantNumber(0, DIGITS - 1);
            draft.bedOf[draft.sleepers] = bed;
            draft.dreamOf[draft.sleepers] = dreamt;
            draft.sleepers++;
        }

        private int[] readLaw() {
            tokens.advance();
            tokens.want(":");
            size = 0;
            readSum(0);
            return Arrays.copyOf(codes, size);
        }

        private void readSum(int within) {
            int adding = 0;
            boolean more = true;
            for (int i = 0; i < MOST_TEXT && more; i++) {
                readAtom(within);
                for (int j = 0; j < MOST_TEXT && tokens.isFaultless() && tokens.is("*"); j++) {
                    tokens.advance();
                    readAtom(within);
                    append(TIMES);
                }
                if (adding != 0) {
                    append(adding);
                }
                adding = tokens.is("+") ? PLUS : tokens.is("-") ? MINUS : 0;
                more = tokens.isFaultless() && adding != 0;
                if (more) {
                    tokens.advance();
                }
            }
        }

        private void readAtom(int within) {
            if (!tokens.isFaultless()) {
                return;
            }
            int named = valueNamed();
            if (named != 0) {
                tokens.advance();
                append(named);
            } else if (tokens.isNumber()) {
                append(tokens.number);
                tokens.advance();
            } else if (tokens.is("(")) {
                if (goWithin(within)) {
                    readSum(within + 1);
                    tokens.want(")");
                }
            } else if (tokens.is("if")) {
                if (goWithin(within)) {
                    readChoice(within + 1);
                }
            } else {
                tokens.refuse(2);
            }
        }

        /** The code of a value that a law can ask for by its name; 0: it is no such name. */
        private int valueNamed() {
            if (tokens.is("who")) {
                return WHO;
            }
            if (tokens.is("last")) {
                return LAST;
            }
            if (tokens.is("sound")) {
                return SOUND;
            }
            if (tokens.is("far")) {
                return FAR;
            }
            if (tokens.is("act")) {
                return ACT;
            }
            if (tokens.is("dream")) {
                return DREAM;
            }
            return tokens.is("hush") ? HUSH : 0;
        }

        /** Goes behind one of not [ ( if, unless it is one too many within one another. */
        private boolean goWithin(int within) {
            if (within >= MOST_WITHIN) {
                tokens.refuse(4);
                return false;
            }
            tokens.advance();
            return true;
        }

        private void readChoice(int within) {
            readTruth(within);
            tokens.want("then");
            append(SKIP_UNLESS);
            int toElse = size;
            append(0);
            readSum(within);
            tokens.want("else");
            append(SKIP);
            int toEnd = size;
            append(0);
            aim(toElse);
            readSum(within);
            tokens.want("end");
            aim(toEnd);
        }

        private void readTruth(int within) {
            readBoth(within);
            for (int i = 0; i < MOST_TEXT && tokens.isFaultless() && tokens.is("or"); i++) {
                tokens.advance();
                readBoth(within);
                append(OR);
            }
        }

        private void readBoth(int within) {
            readUnit(within);
            for (int i = 0; i < MOST_TEXT && tokens.isFaultless() && tokens.is("and"); i++) {
                tokens.advance();
                readUnit(within);
                append(AND);
            }
        }

        private void readUnit(int within) {
            if (!tokens.isFaultless()) {
                return;
            }
            if (tokens.is("not")) {
                if (goWithin(within)) {
                    readUnit(within + 1);
                    append(NOT);
                }
            } else if (tokens.is("[")) {
                if (goWithin(within)) {
                    readTruth(within + 1);
                    tokens.want("]");
                }
            } else {
                readComparison(within);
            }
        }

        private void readComparison(int within) {
            readSum(within);
            if (!tokens.isFaultless()) {
                return;
            }
            int code = tokens.is("=") ? EQUAL : tokens.is("<") ? LESS : tokens.is(">") ? MORE : 0;
            if (code == 0) {
                tokens.refuse(2);
                return;
            }
            tokens.advance();
            readSum(within);
            append(code);
        }

        private void append(int code) {
            if (size < codes.length) {
                codes[size] = code;
                size++;
            }
        }

        private void aim(int skip) {
            if (skip < codes.length) {
                codes[skip] = size;
            }
        }
    }

    /** Works out beats and other deeds on a play, by the laws of its house. */
    private static final class Stage {
        private static final int MOST_WORTH = 1000000;
        private static final int ASKED = MOST_SLEEPERS * NODES_AN_ACT * (MOST_ACTS + 1) * MOST_SLEEPERS;

        // What the laws told is kept, since many calls ask the same again: the marks say for which house,
        // dream and hush it was.
        private final int[] amounts = new int[ASKED];
        private final int[] amountMarks = new int[ASKED];
        private final int[] tones = new int[ASKED];
        private final int[] toneMarks = new int[ASKED];
        private final int[] values = new int[-Reader.HUSH];
        // Five values can wait at each of seven levels of a law.
        private final int[] stack = new int[64];
        private final int[] seen = new int[PLAIN_NODES];
        private int walks;

        static boolean isBeat(long deed) {
            return deed >= 0 && deed < 10;
        }

        /** Why a deed can't be (1, 2), or 0. */
        int whyNot(Play play, long deed) {
            if (isBeat(deed)) {
                if (deed > play.house.sleepers) {
                    return 1;
                }
                return play.goesOn() ? 0 : 2;
            }
            if (deed >= 10 && deed < 20) {
                return 0;
            }
            if (deed < 100 || deed >= 300) {
                return 1;
            }
            int first = (int) deed / 10 % 10;
            if (!play.has(first)) {
                return 1;
            }
            int other = (int) deed % 10;
            return deed >= 200 || play.has(other) && other != first ? 0 : 1;
        }

        /** Does a deed that can be. */
        void enact(Play play, int deed) {
            if (isBeat(deed)) {
                step(play, deed - 1);
            } else if (deed < 100) {
                play.hush = deed - 10;
            } else if (deed < 200) {
                play.swapBeds(deed / 10 % 10, deed % 10);
            } else {
                play.dreamOf[deed / 10 % 10] = deed % 10;
            }
        }

        /** A beat of a play that goes on: who snores. */
        int step(Play play, int woken) {
            int who = NONE;
            int most = 0;
            for (int s = 0; s < play.house.sleepers; s++) {
                if (s != play.last && s != woken) {
                    int amount = amount(play, s);
                    if (amount > most) {
                        most = amount;
                        who = s;
                    }
                }
            }
            if (who == NONE) {
                play.still = true;
                return NONE;
            }
            play.sound = tone(play, who);
            play.last = who;
            if (play.sound == play.house.turningSound) {
                play.act++;
            }
            play.snored++;
            return who;
        }

        int amount(Play play, int who) {
            int far = play.far(who);
            if (play.house.answers == null) {
                return 10 - far;
            }
            int slot = slot(play, who, far);
            int mark = mark(play, who);
            if (amountMarks[slot] != mark) {
                setValues(play, who, far);
                amounts[slot] = tell(play.house.answers);
                amountMarks[slot] = mark;
            }
            return amounts[slot];
        }

        private int tone(Play play, int who) {
            if (play.house.says == null) {
                return rest(play.sound + play.dreamOf[who], play.house.sounds);
            }
            int far = play.far(who);
            int slot = slot(play, who, far);
            int mark = mark(play, who);
            if (toneMarks[slot] != mark) {
                setValues(play, who, far);
                tones[slot] = rest(tell(play.house.says), play.house.sounds);
                toneMarks[slot] = mark;
            }
            return tones[slot];
        }

        private static int slot(Play play, int who, int far) {
            int node = (play.act * MOST_SOUNDS + play.sound) * MOST_SLEEPERS + play.last;
            return (node * MOST_SLEEPERS + who) * MOST_SLEEPERS + far;
        }

        private static int mark(Play play, int who) {
            return (play.house.serial * DIGITS + play.dreamOf[who]) * DIGITS + play.hush;
        }

        private void setValues(Play play, int who, int far) {
            values[-1 - Reader.WHO] = who;
            values[-1 - Reader.LAST] = play.last;
            values[-1 - Reader.SOUND] = play.sound;
            values[-1 - Reader.FAR] = far;
            values[-1 - Reader.ACT] = play.act;
            values[-1 - Reader.DREAM] = play.dreamOf[who];
            values[-1 - Reader.HUSH] = play.hush;
        }

        private int tell(int[] law) {
            int top = 0;
            int at = 0;
            // Skips only go on, so no code is met twice.
            for (int i = 0; i < law.length && at < law.length; i++) {
                int code = law[at];
                if (code >= Reader.HUSH) {
                    if (top < stack.length) {
                        stack[top] = code >= 0 ? code : values[-1 - code];
                        top++;
                    }
                    at++;
                } else if (code == Reader.SKIP || code == Reader.SKIP_UNLESS) {
                    boolean skips = code == Reader.SKIP;
                    if (!skips && top > 0) {
                        top--;
                        skips = stack[top] == 0;
                    }
                    at = skips && at + 1 < law.length ? law[at + 1] : at + 2;
                } else {
                    if (code == Reader.NOT && top > 0) {
                        stack[top - 1] = 1 - stack[top - 1];
                    } else if (top > 1) {
                        top--;
                        stack[top - 1] = combined(code, stack[top - 1], stack[top]);
                    }
                    at++;
                }
            }
            return top > 0 ? stack[top - 1] : 0;
        }

        private static int combined(int code, long a, long b) {
            long made;
            switch (code) {
                case Reader.PLUS:
                    made = a + b;
                    break;
                case Reader.MINUS:
                    made = a - b;
                    break;
                case Reader.TIMES:
                    made = a * b;
                    break;
                case Reader.EQUAL:
                    made = a == b ? 1 : 0;
                    break;
                case Reader.LESS:
                    made = a < b ? 1 : 0;
                    break;
                case Reader.MORE:
                    made = a > b ? 1 : 0;
                    break;
                case Reader.AND:
                    made = a != 0 && b != 0 ? 1 : 0;
                    break;
                default:
                    made = a != 0 || b != 0 ? 1 : 0;
            }
            return made < -MOST_WORTH ? -MOST_WORTH : made > MOST_WORTH ? MOST_WORTH : (int) made;
        }

        /** Leaves a play alone: in how many beats it ends, if within the limit; else NONE. */
        int endsIn(Play play, int limit) {
            walks++;
            for (int beat = 0; beat <= limit; beat++) {
                if (play.still) {
                    return NONE;
                }
                if (play.hasEnded()) {
                    return beat;
                }
                int node = play.node();
                if (seen[node] == walks) {
                    return NONE;
                }
                seen[node] = walks;
                step(play, NONE);
            }
            return NONE;
        }
    }

    /** Which node follows which one by which beat, while beds, dreams and hush stay as they are. */
    private static final class Graph {
        private static final int UNKNOWN = -1;

        private final Stage stage;
        private final Play trial;
        // Waking matters only for the one who would snore else: two nodes can follow one, no more.
        private final int[] next = new int[PLAIN_NODES];
        private final int[] nextIfWoken = new int[PLAIN_NODES];
        private long setting = NONE;
        int now = NONE;
        // The nodes that some row comes to and from which the play goes on.
        final int[] reached = new int[PLAIN_NODES];
        int reachedCount;
        private final int[] reachedMarks = new int[PLAIN_NODES];
        // The play left alone: its nodes, how many beats they are, and the place to which the last comes back.
        final int[] path = new int[PLAIN_NODES + 1];
        private final int[] placeOnPath = new int[PLAIN_NODES];
        int steps;
        int loop;

        Graph(Stage stage, Play trial) {
            this.stage = stage;
            this.trial = trial;
        }

        /** Works out all that can follow from a play as it is. */
        void prepare(Play play) {
            boolean asBefore = play.setting() == setting;
            if (asBefore && play.node() == now) {
                return;
            }
            if (!asBefore) {
                setting = play.setting();
                trial.takeFrom(play);
                Arrays.fill(next, UNKNOWN);
            }
            now = play.node();
            Arrays.fill(reachedMarks, 0);
            reachedCount = 0;
            reach(now);
            for (int i = 0; i < reachedCount && i < PLAIN_NODES; i++) {
                int node = reached[i];
                if (next[node] == UNKNOWN) {
                    workOut(node);
                }
                reach(next[node]);
                reach(nextIfWoken[node]);
            }
        }

        private void reach(int node) {
            if (goesOn(node) && reachedMarks[node] == 0) {
                reachedMarks[node] = 1;
                reached[reachedCount] = node;
                reachedCount++;
            }
        }

        private void workOut(int node) {
            trial.standAt(node);
            int who = stage.step(trial, NONE);
            next[node] = trial.node();
            nextIfWoken[node] = next[node];
            if (who != NONE) {
                trial.standAt(node);
                stage.step(trial, who);
                nextIfWoken[node] = trial.node();
            }
        }

        int sleepers() {
            return trial.house.sleepers;
        }

        boolean isStill(int node) {
            return node >= PLAIN_NODES;
        }

        boolean isEnd(int node) {
            return node < PLAIN_NODES && node / NODES_AN_ACT >= trial.house.acts;
        }

        boolean goesOn(int node) {
            return !isStill(node) && !isEnd(node);
        }

        int actOf(int node) {
            return isStill(node) ? node - PLAIN_NODES : node / NODES_AN_ACT;
        }

        int soundOf(int node) {
            return node / MOST_SLEEPERS % MOST_SOUNDS;
        }

        int lastOf(int node) {
            return node % MOST_SLEEPERS;
        }

        /** The node behind a beat, from one that goes on and is reached. */
        int after(int node, int deed) {
            if (node < 0 || node >= PLAIN_NODES || next[node] == UNKNOWN) {
                return PLAIN_NODES;
            }
            int then = next[node];
            return !isStill(then) && lastOf(then) == deed - 1 ? nextIfWoken[node] : then;
        }

        void leaveAlone() {
            Arrays.fill(placeOnPath, NONE);
            steps = 0;
            loop = NONE;
            path[0] = now;
            while (steps < PLAIN_NODES && loop == NONE && goesOn(path[steps])) {
                int node = path[steps];
                placeOnPath[node] = steps;
                steps++;
                path[steps] = after(node, 0);
                if (goesOn(path[steps])) {
                    loop = placeOnPath[path[steps]];
                }
            }
        }

        /** Who snores in the n-th beat, behind leaveAlone(). */
        int snorerAlone(int n) {
            int place = n;
            if (n > steps) {
                int period = steps - loop;
                if (loop == NONE || period < 1) {
                    return NONE;
                }
                place = loop + (n - loop) % period;
            }
            int node = path[place];
            return isStill(node) ? NONE : lastOf(node);
        }
    }

    /** What rows of beats can bring about, worked out from a graph that was prepared. */
    private static final class Search {
        private static final int UNSET = -1;

        private final Graph graph;
        private final int[] rank = new int[ALL_NODES];
        private final int[] otherRank = new int[ALL_NODES];

        Search(Graph graph) {
            this.graph = graph;
        }

        private boolean isGoal(int node, boolean stillness) {
            return stillness ? graph.isStill(node) : graph.isEnd(node);
        }

        private void clear(int[] row, boolean stillness) {
            for (int node = 0; node < row.length; node++) {
                row[node] = isGoal(node, stillness) ? 0 : UNSET;
            }
        }

        /** The fewest beats till it has ended or is still; ranks are then how many are left. */
        int fewest(boolean stillness) {
            clear(rank, stillness);
            boolean more = true;
            for (int k = 1; k <= PLAIN_NODES && more && rank[graph.now] == UNSET; k++) {
                more = false;
                for (int i = 0; i < graph.reachedCount; i++) {
                    int node = graph.reached[i];
                    if (rank[node] == UNSET && deedTo(rank, node, k - 1) != NONE) {
                        rank[node] = k;
                        more = true;
                    }
                }
            }
            return rank[graph.now];
        }

        /** The first deed that leads from a node to one of a rank. */
        private int deedTo(int[] row, int node, int wanted) {
            for (int deed = 0; deed <= graph.sleepers(); deed++) {
                if (row[graph.after(node, deed)] == wanted) {
                    return deed;
                }
            }
            return NONE;
        }

        int fewestDeed(boolean stillness, int i) {
            int all = fewest(stillness);
            return i < all ? deedDownwards(i) : NONE;
        }

        /** The i-th deed of the first row along which the rank is 1 less each time; there are so many. */
        private int deedDownwards(int i) {
            int node = graph.now;
            for (int beat = 0; beat < i && rank[node] > 0; beat++) {
                node = graph.after(node, Math.max(0, deedTo(rank, node, rank[node] - 1)));
            }
            return rank[node] > 0 ? deedTo(rank, node, rank[node] - 1) : NONE;
        }

        /** The most beats behind which it goes on, NONE for ever; ranks are then how many are left. */
        int longest() {
            Arrays.fill(rank, UNSET);
            boolean more = true;
            for (int k = 0; k < PLAIN_NODES && more; k++) {
                more = false;
                for (int i = 0; i < graph.reachedCount; i++) {
                    int node = graph.reached[i];
                    if (rank[node] == UNSET && isBoundBelow(node, k)) {
                        rank[node] = k;
                        more = true;
                    }
                }
            }
            return rank[graph.now];
        }

        private boolean isBoundBelow(int node, int k) {
            for (int deed = 0; deed <= graph.sleepers(); deed++) {
                int then = graph.after(node, deed);
                if (graph.goesOn(then) && (rank[then] == UNSET || rank[then] >= k)) {
                    return false;
                }
            }
            return true;
        }

        int longestDeed(int i) {
            int most = longest();
            if (most != NONE) {
                return i < most ? deedDownwards(i) : NONE;
            }
            int node = graph.now;
            for (int beat = 0; beat < i; beat++) {
                node = graph.after(node, endlessDeed(node));
            }
            return endlessDeed(node);
        }

        /** From a node from which it can go on for ever: the first deed by which it still can. */
        private int endlessDeed(int node) {
            for (int deed = 0; deed <= graph.sleepers(); deed++) {
                int then = graph.after(node, deed);
                if (graph.goesOn(then) && rank[then] == UNSET) {
                    return deed;
                }
            }
            return 0;
        }

        int snorers() {
            int who = 0;
            for (int i = 0; i < graph.reachedCount; i++) {
                for (int deed = 0; deed <= graph.sleepers(); deed++) {
                    int then = graph.after(graph.reached[i], deed);
                    if (!graph.isStill(then)) {
                        who |= 1 << graph.lastOf(then);
                    }
                }
            }
            return who;
        }

        /** Within how many beats the first one forces the end; ranks tell it by who wakes next, it or the other. */
        int forcedIn() {
            clear(rank, false);
            clear(otherRank, false);
            boolean more = true;
            for (int k = 1; k <= 2 * PLAIN_NODES && more && rank[graph.now] == UNSET; k++) {
                more = false;
                for (int i = 0; i < graph.reachedCount; i++) {
                    more |= forceWithin(graph.reached[i], k);
                }
            }
            return rank[graph.now];
        }

        private boolean forceWithin(int node, int k) {
            boolean more = false;
            if (rank[node] == UNSET && deedTo(otherRank, node, k - 1) != NONE) {
                rank[node] = k;
                more = true;
            }
            if (otherRank[node] == UNSET && allLeadBelow(node, k)) {
                otherRank[node] = k;
                more = true;
            }
            return more;
        }

        private boolean allLeadBelow(int node, int k) {
            for (int deed = 0; deed <= graph.sleepers(); deed++) {
                int left = rank[graph.after(node, deed)];
                if (left == UNSET || left >= k) {
                    return false;
                }
            }
            return true;
        }

        int forcingDeed() {
            int within = forcedIn();
            return within > 0 ? deedTo(otherRank, graph.now, within - 1) : NONE;
        }
    }

    /** Counts rows, those that fit what was heard, and lots, from a graph that was prepared. */
    private static final class Tally {
        private final Graph graph;
        private long[] ways = new long[ALL_NODES];
        private long[] waysThen = new long[ALL_NODES];
        private final int[] metAt = new int[ALL_NODES];
        private final long[][] fitting = new long[MOST_HEARD + 1][ALL_NODES];

        Tally(Graph graph) {
            this.graph = graph;
        }

        private void begin() {
            Arrays.fill(ways, 0L);
            ways[graph.now] = 1;
        }

        private void endBeat() {
            long[] before = ways;
            ways = waysThen;
            waysThen = before;
        }

        /** How many rows of n beats lead to the end (0), to stillness (1), on (2). */
        long rowsOf(int what, int n) {
            begin();
            for (int beat = 0; beat < n; beat++) {
                Arrays.fill(waysThen, 0L);
                for (int node = 0; node < PLAIN_NODES; node++) {
                    if (ways[node] != 0 && graph.goesOn(node)) {
                        for (int deed = 0; deed <= graph.sleepers(); deed++) {
                            waysThen[graph.after(node, deed)] += ways[node];
                        }
                    }
                }
                endBeat();
            }
            long all = 0;
            for (int node = 0; node < ALL_NODES; node++) {
                int kind = graph.isEnd(node) ? 0 : graph.isStill(node) ? 1 : 2;
                if (kind == what) {
                    all += ways[node];
                }
            }
            return all;
        }

        /** After it ways are how many of all draws of n lots lead to a node. */
        void drawLots(int n) {
            begin();
            for (int beat = 0; beat < n; beat++) {
                Arrays.fill(waysThen, 0L);
                for (int node = 0; node < ALL_NODES; node++) {
                    if (ways[node] != 0) {
                        drawLot(node);
                    }
                }
                endBeat();
            }
        }

        private void drawLot(int node) {
            if (!graph.goesOn(node)) {
                waysThen[node] += LOTS * ways[node];
                return;
            }
            for (int deed = 1; deed <= graph.sleepers(); deed++) {
                waysThen[graph.after(node, deed)] += ways[node];
            }
            waysThen[graph.after(node, 0)] += (LOTS - graph.sleepers()) * ways[node];
        }

        long endsDrawn() {
            long ends = 0;
            for (int node = 0; node < ALL_NODES; node++) {
                if (graph.isEnd(node)) {
                    ends += ways[node];
                }
            }
            return ends;
        }

        long actsDrawn() {
            long acts = 0;
            for (int node = 0; node < ALL_NODES; node++) {
                acts += graph.actOf(node) * ways[node];
            }
            return acts;
        }

        static long commonDivisor(long a, long b) {
            long larger = a;
            long smaller = b;
            // Each two rounds halve the smaller one at least.
            for (int i = 0; i < 130 && smaller != 0; i++) {
                long rest = larger % smaller;
                larger = smaller;
                smaller = rest;
            }
            return larger;
        }

        private boolean fits(int node, long heardSound) {
            return !graph.isStill(node) && (heardSound == NONE || graph.soundOf(node) == heardSound);
        }

        private boolean isMet(int node, int beat) {
            return (metAt[node] >> beat & 1) != 0;
        }

        /** Works out for each beat and node that fits what was heard by then, how many rows fit the rest. */
        void listen(Tray heardIn) {
            Arrays.fill(metAt, 0);
            metAt[graph.now] = 1;
            for (int beat = 0; beat < heardIn.size && beat < MOST_HEARD; beat++) {
                for (int node = 0; node < PLAIN_NODES; node++) {
                    if (isMet(node, beat) && graph.goesOn(node)) {
                        meetFrom(node, beat, heardIn.held[beat]);
                    }
                }
            }
            for (int beat = Math.min(heardIn.size, MOST_HEARD); beat >= 0; beat--) {
                for (int node = 0; node < ALL_NODES; node++) {
                    if (isMet(node, beat)) {
                        fitting[beat][node] = beat == heardIn.size ? 1 : fittingFrom(node, beat, heardIn.held[beat]);
                    }
                }
            }
        }

        private void meetFrom(int node, int beat, long heardSound) {
            for (int deed = 0; deed <= graph.sleepers(); deed++) {
                int then = graph.after(node, deed);
                if (fits(then, heardSound)) {
                    metAt[then] |= 1 << (beat + 1);
                }
            }
        }

        private long fittingFrom(int node, int beat, long heardSound) {
            long all = 0;
            for (int deed = 0; graph.goesOn(node) && deed <= graph.sleepers(); deed++) {
                all += fittingBehind(graph.after(node, deed), beat, heardSound);
            }
            return all;
        }

        /** How many rows fit the rest behind a beat that leads to a node; 0, if that beat doesn't fit. */
        private long fittingBehind(int then, int beat, long heardSound) {
            return fits(then, heardSound) ? fitting[beat + 1][then] : 0;
        }

        long heardRows() {
            return fitting[0][graph.now];
        }

        int firstHeardDeed(Tray heardIn, int i) {
            if (i >= heardIn.size || heardRows() == 0) {
                return NONE;
            }
            int node = graph.now;
            for (int beat = 0; beat < i; beat++) {
                node = graph.after(node, fittingDeed(node, beat, heardIn.held[beat]));
            }
            return fittingDeed(node, i, heardIn.held[i]);
        }

        /** From a node from which some row fits: the first deed of such a one. */
        private int fittingDeed(int node, int beat, long heardSound) {
            for (int deed = 0; deed <= graph.sleepers(); deed++) {
                if (fittingBehind(graph.after(node, deed), beat, heardSound) > 0) {
                    return deed;
                }
            }
            return 0;
        }

        int heardSnorers(Tray heardIn, int i) {
            int who = 0;
            for (int node = 0; node < PLAIN_NODES; node++) {
                for (int deed = 0; isMet(node, i) && graph.goesOn(node) && deed <= graph.sleepers(); deed++) {
                    int then = graph.after(node, deed);
                    if (fittingBehind(then, i, heardIn.held[i]) > 0) {
                        who |= 1 << graph.lastOf(then);
                    }
                }
            }
            return who;
        }
    }

    /** Finds the order of the sleepers in their beds by which the play, left alone, ends soonest. */
    private static final class Placer {
        private final Stage stage;
        private final Play trial;
        private final int[] order = new int[MOST_SLEEPERS];
        final int[] firstOrder = new int[MOST_SLEEPERS];
        int fewest = NONE;
        // What was found is kept for the calls that ask for one bed after another.
        private long placedSetting = NONE;
        private int placedNode = NONE;

        Placer(Stage stage, Play trial) {
            this.stage = stage;
            this.trial = trial;
        }

        void place(Play play) {
            if (play.setting() == placedSetting && play.node() == placedNode) {
                return;
            }
            placedSetting = play.setting();
            placedNode = play.node();
            fewest = NONE;
            sortBeds(play);
            boolean more = true;
            // Six sleepers have 720 orders.
            for (int i = 0; i < 720 && more && fewest != 0; i++) {
                trial.takeFrom(play);
                System.arraycopy(order, 0, trial.bedOf, 0, play.house.sleepers);
                int ends = stage.endsIn(trial, fewest == NONE ? PLAIN_NODES : fewest - 1);
                if (ends != NONE) {
                    fewest = ends;
                    System.arraycopy(order, 0, firstOrder, 0, play.house.sleepers);
                }
                more = nextOrder(play.house.sleepers);
            }
        }

        private void sortBeds(Play play) {
            int placed = 0;
            for (int bed = 0; bed < play.house.beds; bed++) {
                for (int s = 0; s < play.house.sleepers; s++) {
                    if (play.bedOf[s] == bed && placed < order.length) {
                        order[placed] = bed;
                        placed++;
                    }
                }
            }
        }

        /** The next order of the first n beds, least first; false, if it was the last one. */
        private boolean nextOrder(int n) {
            int turn = n - 2;
            while (turn >= 0 && order[turn] > order[turn + 1]) {
                turn--;
            }
            if (turn < 0) {
                return false;
            }
            int with = n - 1;
            while (with > turn && order[with] < order[turn]) {
                with--;
            }
            swap(turn, with);
            int right = n - 1;
            for (int left = turn + 1; left < right; left++) {
                swap(left, right);
                right--;
            }
            return true;
        }

        private void swap(int a, int b) {
            int bed = order[a];
            order[a] = order[b];
            order[b] = bed;
        }
    }
}
