import java.util.Arrays;

/**
 * A jumping hill and its wind, told as texts. What each call answers is told by the document (DOC.md); the words in
 * capitals in the comments here are the document's terms.
 */
public final class WindJump {
    public static final int NONE = -1;

    private static final int NO_SUCH = -10000;
    private static final int NOBODY = -2;
    private static final int SECTIONS = 5;
    private static final int MOST_MEN = 8;
    private static final int MOST_JUDGES = 7;
    private static final int MOST_STARTS = 16;
    private static final int MOST_GATE = 40;
    private static final int MOST_LATE = 9;
    private static final int MOST_LENGTH = 9999;
    private static final int LAST_SECOND = 99999;

    private final Tape tape;
    private final Tokens tokens;
    private final Parser parser;
    /** What a text tells while it is looked through for FAULTS. */
    private final Text draft;
    private final Text text;
    private final Flight flight;
    private final Play play;
    /** What goes on in what would be: CROWN and REVERSED. */
    private final Play trial;
    private final Kept undoable;
    private final Slots slots;
    private final Told told;
    private final int[] otherTotals;
    private int faultPlace;

    public WindJump() {
        tape = new Tape();
        tokens = new Tokens(tape);
        parser = new Parser(tokens);
        draft = new Text();
        text = new Text();
        flight = new Flight(text);
        play = new Play(text);
        trial = new Play(text);
        undoable = new Kept();
        slots = new Slots();
        told = new Told();
        otherTotals = new int[MOST_MEN];
        faultPlace = NONE;
        text.clear();
        text.fillUntold();
        beginAnew();
    }

    public int feed(int a, int b, int c, int d, int e) {
        if (!tape.hasRoom(20)) {
            return NONE;
        }
        tape.put(a);
        tape.put(b);
        tape.put(c);
        tape.put(d);
        tape.put(e);
        return tape.length;
    }

    public int back(int n) {
        if (!within(n, 0, tape.length)) {
            return NONE;
        }
        tape.length -= n;
        return tape.length;
    }

    public int read() {
        tokens.scan();
        int fault = parser.parse(draft);
        faultPlace = parser.place;
        if (fault == 0) {
            parser.parse(text);
            beginAnew();
        }
        tape.length = 0;
        return fault;
    }

    public int place() {
        return faultPlace;
    }

    public int now(int what) {
        switch (what) {
            case 0: return play.second;
            case 1: return play.round;
            case 2: return play.gate;
            case 3: return play.nextMan();
            case 4: return play.started;
            case 5:
                flight.blow(play.second);
                return flight.meanWind;
            case 6:
                flight.blow(play.second);
                return flight.trueWind;
            default: return NO_SUCH;
        }
    }

    public int wind(int section, int second) {
        if (!within(section, 0, SECTIONS - 1) || !within(second, 0, LAST_SECOND)) {
            return NO_SUCH;
        }
        return flight.windAt(section, second);
    }

    public int jump(int man, int round, int what) {
        if (!play.hasJump(man, round) || !within(what, Play.LENGTH, Play.AHEAD)) {
            return NO_SUCH;
        }
        return play.cell(man, round, what);
    }

    public int mark(int man, int round, int judge) {
        if (!play.hasJump(man, round) || !isJudge(judge)) {
            return NO_SUCH;
        }
        return play.cell(man, round, Play.MARKS + judge);
    }

    public int points(int man) {
        return isMan(man) ? play.totals[man] : NONE;
    }

    public int rank(int man) {
        return isMan(man) ? play.rankOf(man) : NONE;
    }

    public int ranked(int rank) {
        return isMan(rank) ? play.manOfRank(rank) : NONE;
    }

    public int start(int n) {
        if (!within(n, 1, MOST_STARTS) || play.nextMan() == NOBODY) {
            return NONE;
        }
        undoable.keep(play);
        return startByGoes(play, n);
    }

    public int letGo(int n) {
        if (!within(n, 0, text.waits) || play.nextMan() == NOBODY) {
            return NONE;
        }
        undoable.keep(play);
        launch(play, play.second + n);
        return flight.length;
    }

    public boolean gate(int gate) {
        if (!isGate(gate) || gate == play.gate) {
            return false;
        }
        undoable.keep(play);
        play.gate = gate;
        return true;
    }

    public int pause(int n) {
        if (!within(n, 1, 999)) {
            return NONE;
        }
        undoable.keep(play);
        play.second += n;
        return play.second;
    }

    public boolean undo() {
        return undoable.takeBack(play);
    }

    public int attempt(int man, int n, int late, int what) {
        if (!isMan(man) || !within(n, 0, 999) || !isLate(late) || !within(what, 0, 2)) {
            return NO_SUCH;
        }
        tryOut(man, n, late, true);
        switch (what) {
            case 0: return flight.length;
            case 1: return flight.points;
            default: return flight.style;
        }
    }

    public int wait(int man, int what) {
        if (!isMan(man) || !within(what, 0, 3)) {
            return NONE;
        }
        boolean byPoints = what >= 2;
        int behind = 0;
        int most = tryOut(man, 0, 0, byPoints);
        for (int n = 1; n <= text.waits; n++) {
            int value = tryOut(man, n, 0, byPoints);
            if (value > most) {
                most = value;
                behind = n;
            }
        }
        return what == 0 || what == 2 ? behind : most;
    }

    public int cost(int man, int late, boolean points) {
        if (!isMan(man) || !isLate(late)) {
            return NO_SUCH;
        }
        return tryOut(man, 0, 0, points) - tryOut(man, 0, late, points);
    }

    public int pound(int man, int weight, int ski) {
        if (!isMan(man) || !within(weight, 0, 30) || !within(ski, 0, 60)) {
            return NO_SUCH;
        }
        int heavy = text.people.weight[man];
        int tall = text.people.ski[man];
        flight.blow(play.second);
        int less = flight.reach(heavy - weight, tall - ski, 0, play.gate, play.started);
        return less - flight.reach(heavy, tall, 0, play.gate, play.started);
    }

    public int gain(int man) {
        if (!isMan(man)) {
            return NO_SUCH;
        }
        int blown = tryOut(man, 0, 0, true);
        flight.calmDown();
        return blown - jumpNow(man, 0, play.gate, play.started, true);
    }

    public int number(int man) {
        if (!isMan(man)) {
            return NO_SUCH;
        }
        flight.blow(play.second);
        int first = jumpNow(man, 0, play.gate, 0, true);
        return first - jumpNow(man, 0, play.gate, text.people.men - 1, true);
    }

    public int gates(int what) {
        if (!within(what, 0, 1)) {
            return NONE;
        }
        int gate = safeGate();
        if (what == 0 || gate == NOBODY) {
            return gate;
        }
        flight.blow(play.second);
        int together = 0;
        for (int man = 0; man < text.people.men; man++) {
            together += flight.reachOf(man, 0, gate, play.started);
        }
        return together;
    }

    public int crown(int man, int s) {
        if (!isMan(man) || !within(s, 1, 10)) {
            return NONE;
        }
        int crowns = 0;
        for (int i = 0; i < s; i++) {
            flight.seed = text.seed + i;
            trial.copy(play);
            startByGoes(trial, MOST_STARTS);
            if (trial.rankOf(man) == 0) {
                crowns++;
            }
        }
        flight.seed = text.seed;
        return crowns;
    }

    public int without(int man, int judge) {
        if (!isMan(man) || !isJudge(judge)) {
            return NONE;
        }
        for (int other = 0; other < text.people.men; other++) {
            otherTotals[other] = pointsWithout(other, 1, judge) + pointsWithout(other, 2, judge);
        }
        return rankAmong(otherTotals, text.people.men, man);
    }

    public int needs(int man) {
        if (!isMan(man) || !play.isToStart(man)) {
            return NONE;
        }
        int wanted = play.totalToBeFirst(man) - play.totals[man];
        int mostStyle = flight.mostStyle();
        flight.calmDown();
        int given = flight.givenFor(0);
        for (int length = 0; length <= MOST_LENGTH; length++) {
            // A LENGTH that even the best STYLE leaves behind need not be judged: most of them are such.
            if (flight.pointsFor(length, mostStyle, given, play.gate) < wanted) {
                continue;
            }
            flight.length = length;
            flight.judge(man, 0, play.gate);
            if (flight.points >= wanted) {
                return length;
            }
        }
        return NOBODY;
    }

    public int spread(int man) {
        if (!isMan(man)) {
            return NONE;
        }
        int longest = tryOut(man, 0, 0, false);
        int shortest = longest;
        for (int n = 1; n <= text.waits; n++) {
            int length = tryOut(man, n, 0, false);
            longest = Math.max(longest, length);
            shortest = Math.min(shortest, length);
        }
        return longest - shortest;
    }

    public int atGate(int man, int gate, boolean points) {
        if (!isMan(man) || !isGate(gate)) {
            return NO_SUCH;
        }
        flight.blow(play.second);
        return jumpNow(man, 0, gate, play.started, points);
    }

    public int lead(int man) {
        return isMan(man) ? play.totals[man] - play.mostOfOthers(man) : NO_SUCH;
    }

    public int reversed(int man) {
        if (!isMan(man)) {
            return NONE;
        }
        trial.begin();
        trial.turnOrder();
        startByGoes(trial, MOST_STARTS);
        return trial.rankOf(man);
    }

    public int harsh(boolean kind, int what) {
        if (!within(what, 0, 1)) {
            return NONE;
        }
        int found = NOBODY;
        int sum = NOBODY;
        for (int judge = 0; judge < text.people.judges; judge++) {
            int gave = play.givenBy(judge);
            if (found == NOBODY || (kind ? gave > sum : gave < sum)) {
                found = judge;
                sum = gave;
            }
        }
        return what == 0 ? found : sum;
    }

    public int calm(int n, int what) {
        if (!within(n, 0, 999) || !within(what, 0, 1)) {
            return NO_SUCH;
        }
        flight.blow(play.second);
        int behind = 0;
        int calmest = flight.meanWind;
        for (int i = 1; i <= n; i++) {
            flight.blow(play.second + i);
            if (Math.abs(flight.meanWind) < Math.abs(calmest)) {
                calmest = flight.meanWind;
                behind = i;
            }
        }
        return what == 0 ? behind : calmest;
    }

    public int windiest(int second) {
        if (!within(second, 0, LAST_SECOND)) {
            return NONE;
        }
        int found = 0;
        int farthest = NONE;
        for (int section = 0; section < SECTIONS; section++) {
            int far = Math.abs(flight.windAt(section, second));
            if (far > farthest) {
                farthest = far;
                found = section;
            }
        }
        return found;
    }

    public int progress(int man) {
        if (!play.hasJump(man, 1) || !play.hasJump(man, 2)) {
            return NO_SUCH;
        }
        return play.cell(man, 2, Play.LENGTH) - play.cell(man, 1, Play.LENGTH);
    }

    public int himself(int what) {
        if (!within(what, 0, 2)) {
            return NO_SUCH;
        }
        int bestMan = NOBODY;
        int bestRound = NOBODY;
        int best = NOBODY;
        for (int man = 0; man < text.people.men; man++) {
            for (int round = 1; round <= 2; round++) {
                if (!play.hasJump(man, round)) {
                    continue;
                }
                int more = moreThanHimself(man, round);
                if (bestMan == NOBODY || more > best) {
                    bestMan = man;
                    bestRound = round;
                    best = more;
                }
            }
        }
        switch (what) {
            case 0: return bestMan;
            case 1: return best;
            default: return bestRound;
        }
    }

    public int tell(int man, int second, int length) {
        if (!isMan(man) || !within(second, 0, 9999) || !within(length, 0, MOST_LENGTH)) {
            return NONE;
        }
        return told.add(man, second, length);
    }

    public int forget() {
        int count = told.count;
        told.count = 0;
        return count;
    }

    public int slips(int man, int k, int i) {
        if (!isMan(man) || !within(k, 0, told.count) || i < NONE) {
            return NONE;
        }
        int count = 0;
        for (int late = -MOST_LATE; late <= MOST_LATE; late++) {
            if (!mayBeSoLate(man, k, late)) {
                continue;
            }
            if (count == i) {
                return late + MOST_LATE;
            }
            count++;
        }
        return i == NONE ? count : NONE;
    }

    public boolean hold(int slot) {
        return slots.putInto(slot, play);
    }

    public boolean restore(int slot) {
        if (!slots.giveBack(slot, play)) {
            return false;
        }
        undoable.clear();
        return true;
    }

    public int count(int what) {
        switch (what) {
            case 0: return text.people.men;
            case 1: return text.people.judges;
            case 2: return text.k;
            case 3: return text.safe;
            case 4: return text.metre;
            case 5: return text.waits;
            case 6: return text.goOn;
            case 7: return play.jumpsBeyond(text.safe);
            case 8: return tape.length;
            case 9: return undoable.count;
            case 10: return told.count;
            case 11: return slots.countHeld();
            case 12: return play.longest();
            default: return NONE;
        }
    }

    private static boolean within(int value, int low, int high) {
        return value >= low && value <= high;
    }

    /** The value, or the end of low .. high that it lies beyond. */
    private static int held(int value, int low, int high) {
        return Math.max(low, Math.min(high, value));
    }

    /** The RANK of a man among the first so many: by their totals, of alike ones by numbers. */
    private static int rankAmong(int[] totals, int men, int man) {
        int rank = 0;
        for (int other = 0; other < men; other++) {
            boolean ahead = totals[other] > totals[man] || (totals[other] == totals[man] && other < man);
            if (ahead) {
                rank++;
            }
        }
        return rank;
    }

    /** STYLE of all from a row of marks, one JUDGE left out (or NONE). */
    private static int styleOf(int[] marks, int from, int judges, int except) {
        int sum = 0;
        int count = 0;
        int highest = 0;
        int lowest = 0;
        for (int judge = 0; judge < judges && from + judge < marks.length; judge++) {
            if (judge == except) {
                continue;
            }
            int mark = marks[from + judge];
            highest = count == 0 ? mark : Math.max(highest, mark);
            lowest = count == 0 ? mark : Math.min(lowest, mark);
            sum += mark;
            count++;
        }
        return count >= 3 ? sum - highest - lowest : sum;
    }

    private boolean isMan(int man) {
        return within(man, 0, text.people.men - 1);
    }

    private boolean isJudge(int judge) {
        return within(judge, 0, text.people.judges - 1);
    }

    private static boolean isGate(int gate) {
        return within(gate, 0, MOST_GATE);
    }

    private static boolean isLate(int late) {
        return within(late, -MOST_LATE, MOST_LATE);
    }

    /** What is so when a text has just been told: nobody has started, nothing is kept. */
    private void beginAnew() {
        flight.seed = text.seed;
        play.begin();
        undoable.clear();
        slots.clear();
        told.count = 0;
    }

    /** Up to so many STARTS, one after the other: how many there were. */
    private int startByGoes(Play going, int most) {
        int count = 0;
        for (int n = 0; n < most && going.nextMan() != NOBODY; n++) {
            launch(going, going.second + waitByGoes(going.nextMan(), going.second));
            count++;
        }
        return count;
    }

    /** How many seconds GOES lets a MAN wait who sits on the bar from this second on. */
    private int waitByGoes(int man, int second) {
        for (int waited = 0; waited < text.waits; waited++) {
            flight.blow(second + waited);
            if (flight.goes(man, waited)) {
                return waited;
            }
        }
        return text.waits;
    }

    /** The next one is let go in this second. */
    private void launch(Play going, int second) {
        int man = going.nextMan();
        int late = flight.slipOf(man, second);
        flight.blow(second);
        flight.reachOf(man, late, going.gate, going.started);
        flight.judge(man, late, going.gate);
        going.enter(man, late, second, flight);
    }

    /** TRY: LENGTH, or POINTS (only for these is it judged). */
    private int tryOut(int man, int n, int late, boolean points) {
        flight.blow(play.second + n);
        return jumpNow(man, late, play.gate, play.started, points);
    }

    /** LENGTH or POINTS of a JUMP in the wind that blew last. */
    private int jumpNow(int man, int late, int gate, int ahead, boolean points) {
        flight.reachOf(man, late, gate, ahead);
        if (points) {
            flight.judge(man, late, gate);
        }
        return points ? flight.points : flight.length;
    }

    private int safeGate() {
        for (int gate = MOST_GATE; gate >= 0; gate--) {
            if (isSafeGate(gate)) {
                return gate;
            }
        }
        return NOBODY;
    }

    private boolean isSafeGate(int gate) {
        for (int n = 0; n <= 9; n++) {
            flight.blow(play.second + n);
            for (int man = 0; man < text.people.men; man++) {
                if (flight.reachOf(man, 0, gate, play.started) > text.safe) {
                    return false;
                }
            }
        }
        return true;
    }

    /** POINTS of a JUMP that was, one JUDGE left out; 0 for a JUMP that wasn't. */
    private int pointsWithout(int man, int round, int judge) {
        if (!play.hasJump(man, round)) {
            return 0;
        }
        int style = play.styleWithout(man, round, judge);
        int given = flight.givenFor(play.cell(man, round, Play.MEAN));
        return flight.pointsFor(play.cell(man, round, Play.LENGTH), style, given, play.cell(man, round, Play.GATE));
    }

    /** How much longer a JUMP that was is than it would have been without his slip. */
    private int moreThanHimself(int man, int round) {
        flight.blow(play.cell(man, round, Play.SECOND));
        int unslipped = flight.reachOf(man, 0, play.cell(man, round, Play.GATE), play.cell(man, round, Play.AHEAD));
        return play.cell(man, round, Play.LENGTH) - unslipped;
    }

    /** Whether all that is KNOWN of a MAN by k would be as TOLD, were he always so LATE. */
    private boolean mayBeSoLate(int man, int k, int late) {
        for (int i = 0; i < k && i < Told.MOST; i++) {
            if (told.man[i] != man) {
                continue;
            }
            flight.blow(told.second[i]);
            if (flight.reachOf(man, late, text.gateTold, 0) != told.length[i]) {
                return false;
            }
        }
        return true;
    }

    /** The bytes that have been fed and not yet read. */
    private static final class Tape {
        static final int MOST = 2000;

        private final byte[] bytes = new byte[MOST];
        private int length;

        boolean hasRoom(int more) {
            return length + more <= MOST;
        }

        /** Four bytes, the highest first. */
        void put(int four) {
            for (int shift = 24; shift >= 0; shift -= 8) {
                if (hasRoom(1)) {
                    bytes[length] = (byte) (four >> shift);
                    length++;
                }
            }
        }

        /** NONE beyond the end. */
        int byteAt(int i) {
            return i >= 0 && i < length ? bytes[i] & 255 : NONE;
        }
    }

    /** The TOKENS of a tape, each with a kind: one of those below, the byte of a SIGN, or that of a word in quotes. */
    private static final class Tokens {
        static final int MOST = 400;
        static final int END = 0;
        static final int NO_TOKEN = 1;
        static final int NAME = 2;
        static final int INT = 3;
        /** The words in quotes, in the order of WORDS. */
        static final int HILL = 128;
        static final int WIND = 129;
        static final int FAR = 130;
        static final int GIVES = 131;
        static final int STYLE = 132;
        static final int GOES = 133;
        static final int PARTS = 134;
        static final int MAN = 135;
        static final int JUDGE = 136;
        static final int SNOW = 137;
        static final int GUSTS = 138;
        static final int WAITS = 139;
        static final int GATE = 140;
        static final int SECOND = 141;
        static final int SEED = 142;
        static final int IF = 143;
        static final int THEN = 144;
        static final int ELSE = 145;
        static final int FIRST_VAR = 146;
        static final int LAST_VAR = 156;

        private static final int LONGEST_NAME = 8;
        private static final int LONGEST_INT = 4;
        private static final String SIGNS = ";=+-*/<()";
        /** Each with a blank behind it. */
        private static final String WORDS = "hill wind far gives style goes parts man judge snow gusts waits gate second seed if then else at section gust weight ski late white bar length lean home ";

        private final Tape tape;
        private final int[] kinds = new int[MOST + 1];
        private final int[] places = new int[MOST + 1];
        /** Of an INT the number, of a NAME how long it is. */
        private final int[] values = new int[MOST + 1];
        private int next;

        Tokens(Tape tape) {
            this.tape = tape;
        }

        /** One more TOKEN than a text may have is looked at: what it is decides which FAULT it makes. */
        void scan() {
            next = 0;
            boolean goesOn = true;
            for (int i = 0; i <= MOST && goesOn; i++) {
                skipBlanks();
                places[i] = next;
                scanOne(i);
                goesOn = kinds[i] != END && kinds[i] != NO_TOKEN;
            }
        }

        boolean isSameName(int one, int other) {
            if (values[one] != values[other]) {
                return false;
            }
            for (int i = 0; i < values[one]; i++) {
                if (tape.byteAt(places[one] + i) != tape.byteAt(places[other] + i)) {
                    return false;
                }
            }
            return true;
        }

        private void skipBlanks() {
            while (next < tape.length && isBlank(tape.byteAt(next))) {
                next++;
            }
        }

        private void scanOne(int i) {
            int c = tape.byteAt(next);
            if (isLetter(c)) {
                scanName(i);
            } else if (isDigit(c)) {
                scanInt(i);
            } else if (c != NONE && SIGNS.indexOf((char) c) >= 0) {
                kinds[i] = c;
                next++;
            } else {
                kinds[i] = c == NONE ? END : NO_TOKEN;
            }
        }

        private void scanName(int i) {
            while (next < tape.length && isLetter(tape.byteAt(next))) {
                next++;
            }
            int size = next - places[i];
            values[i] = size;
            kinds[i] = size > LONGEST_NAME ? NO_TOKEN : kindOfName(places[i], size);
        }

        private void scanInt(int i) {
            int number = 0;
            while (next < tape.length && isDigit(tape.byteAt(next))) {
                number = number * 10 + tape.byteAt(next) - '0';
                next++;
            }
            values[i] = number;
            kinds[i] = next - places[i] > LONGEST_INT ? NO_TOKEN : INT;
        }

        /** That of a word in quotes, or NAME. */
        private int kindOfName(int place, int size) {
            int word = HILL;
            int matched = 0;
            boolean same = true;
            for (int i = 0; i < WORDS.length(); i++) {
                char c = WORDS.charAt(i);
                if (c != ' ') {
                    same = same && matched < size && tape.byteAt(place + matched) == c;
                    matched++;
                } else if (same && matched == size) {
                    return word;
                } else {
                    word++;
                    matched = 0;
                    same = true;
                }
            }
            return NAME;
        }

        private static boolean isBlank(int c) {
            return c == 9 || c == 10 || c == 13 || c == 32;
        }

        private static boolean isLetter(int c) {
            return c >= 'a' && c <= 'z';
        }

        private static boolean isDigit(int c) {
            return c >= '0' && c <= '9';
        }
    }

    /** Looks a text through for FAULTS and takes what it tells. */
    private static final class Parser {
        static final int SYNTAX = 1;
        static final int ROOM = 2;
        static final int TWICE = 3;
        static final int WRONG = 5;
        private static final int MOST_IFS = 4;
        private static final int DEEPEST = 6;

        private final Tokens tokens;
        /** Which TOKENS were NAMES of MEN and JUDGES. */
        private final int[] names = new int[MOST_MEN + MOST_JUDGES];
        private int nameCount;
        private int at;
        private int number;
        private int fault;
        private int place;
        /** The first FAULT of those that count only in a text without SYNTAX and ROOM. */
        private int laterFault;
        private int laterPlace;

        Parser(Tokens tokens) {
            this.tokens = tokens;
        }

        /** The FAULT (its place stands in place), or 0: then the text holds all that was told. */
        int parse(Text text) {
            at = 0;
            nameCount = 0;
            fault = 0;
            place = NONE;
            laterFault = 0;
            laterPlace = NONE;
            text.clear();
            boolean fine = true;
            for (int n = 0; n <= Tokens.MOST && fine && tokens.kinds[at] != Tokens.END; n++) {
                fine = readTell(text);
            }
            if (fine) {
                fault = laterFault;
                place = laterPlace;
                text.fillUntold();
            }
            return fault;
        }

        private boolean readTell(Text text) {
            int word = tokens.kinds[at];
            if (word < Tokens.HILL || word > Tokens.SEED) {
                return fails(SYNTAX);
            }
            if (text.people.isFull(word)) {
                return fails(ROOM);
            }
            if (!takes(word)) {
                return false;
            }
            boolean fine;
            switch (word) {
                case Tokens.HILL: fine = readHill(text); break;
                case Tokens.WIND: fine = readLaw(text.windLaw); break;
                case Tokens.FAR: fine = readLaw(text.farLaw); break;
                case Tokens.GIVES: fine = readLaw(text.givesLaw); break;
                case Tokens.STYLE: fine = readLaw(text.styleLaw); break;
                case Tokens.GOES: fine = readLaw(text.goesLaw); break;
                case Tokens.PARTS: fine = readParts(text.parts); break;
                case Tokens.MAN: fine = readMan(text.people); break;
                case Tokens.JUDGE: fine = readJudge(text.people); break;
                default: fine = readNumbers(word, text); break;
            }
            return fine && takes(';');
        }

        private boolean readHill(Text text) {
            boolean fine = readInt(100, 2500);
            text.k = number;
            fine = fine && readInt(100, 2500);
            text.safe = number;
            fine = fine && readInt(0, 99);
            text.metre = number;
            return fine;
        }

        private boolean readParts(int[] parts) {
            boolean fine = true;
            for (int section = 0; section < parts.length && fine; section++) {
                fine = readInt(0, 9);
                parts[section] = number;
            }
            return fine;
        }

        private boolean readMan(People people) {
            boolean fine = readName() && readInt(30, 120);
            int weight = number;
            fine = fine && readInt(100, 300);
            int ski = number;
            fine = fine && readInt(0, 9);
            int slip = number;
            fine = fine && readInt(0, 9);
            people.addMan(weight, ski, slip, number);
            return fine;
        }

        private boolean readJudge(People people) {
            boolean fine = readName();
            boolean below = fine && tokens.kinds[at] == '-';
            fine = fine && (!below || takes('-')) && readInt(0, 9);
            int lean = below ? -number : number;
            fine = fine && readInt(0, 9);
            people.addJudge(lean, number);
            return fine;
        }

        /** The TELLS that are a word and numbers alone. */
        private boolean readNumbers(int word, Text text) {
            boolean fine;
            switch (word) {
                case Tokens.SNOW:
                    fine = readInt(0, 99);
                    text.snow = number;
                    return fine;
                case Tokens.GUSTS:
                    fine = readInt(0, 30);
                    text.gusts = number;
                    return fine;
                case Tokens.WAITS:
                    fine = readInt(0, 30);
                    text.waits = number;
                    fine = fine && readInt(1, 300);
                    text.pauseBehind = number;
                    return fine;
                case Tokens.GATE:
                    fine = readInt(0, MOST_GATE);
                    text.gateTold = number;
                    fine = fine && readInt(0, 99);
                    text.step = number;
                    return fine;
                case Tokens.SECOND:
                    fine = readInt(1, MOST_MEN);
                    text.goOn = number;
                    return fine;
                default:
                    fine = readInt(0, 9999);
                    text.seed = number;
                    return fine;
            }
        }

        private boolean readName() {
            int name = at;
            if (!takes(Tokens.NAME)) {
                return false;
            }
            for (int i = 0; i < nameCount; i++) {
                if (tokens.isSameName(names[i], name)) {
                    notes(TWICE, name);
                }
            }
            if (nameCount < names.length) {
                names[nameCount] = name;
                nameCount++;
            }
            return true;
        }

        private boolean readInt(int low, int high) {
            int told = at;
            if (!takes(Tokens.INT)) {
                return false;
            }
            number = tokens.values[told];
            if (!within(number, low, high)) {
                notes(WRONG, told);
            }
            return true;
        }

        private boolean readLaw(Law law) {
            law.clear();
            if (!takes('=')) {
                return false;
            }
            for (int ifs = 0; ifs <= MOST_IFS && tokens.kinds[at] == Tokens.IF; ifs++) {
                if (ifs == MOST_IFS) {
                    return fails(ROOM);
                }
                boolean fine = takes(Tokens.IF) && readSum(law, 0) && takes('<') && readSum(law, 0)
                    && takes(Tokens.THEN) && readSum(law, 0) && takes(Tokens.ELSE);
                if (!fine) {
                    return false;
                }
            }
            return readSum(law, 0);
        }

        /** An E inside so many ( of a LAW; that inside none is a piece of it. */
        private boolean readSum(Law law, int depth) {
            boolean fine = readProduct(law, depth);
            for (int n = 0; n < Tokens.MOST && fine && (tokens.kinds[at] == '+' || tokens.kinds[at] == '-'); n++) {
                int sign = tokens.kinds[at];
                fine = takes(sign) && readProduct(law, depth);
                law.add(sign, 0);
            }
            if (depth == 0) {
                law.endPiece();
            }
            return fine;
        }

        private boolean readProduct(Law law, int depth) {
            boolean fine = readUnit(law, depth);
            for (int n = 0; n < Tokens.MOST && fine && (tokens.kinds[at] == '*' || tokens.kinds[at] == '/'); n++) {
                int sign = tokens.kinds[at];
                fine = takes(sign) && readUnit(law, depth);
                law.add(sign, 0);
            }
            return fine;
        }

        private boolean readUnit(Law law, int depth) {
            int kind = tokens.kinds[at];
            if (kind == Tokens.INT) {
                law.add(Law.INT, tokens.values[at]);
                return takes(Tokens.INT);
            }
            if (within(kind, Tokens.FIRST_VAR, Tokens.LAST_VAR)) {
                law.add(Law.VAR, kind - Tokens.FIRST_VAR);
                return takes(kind);
            }
            if (kind != '(') {
                return fails(SYNTAX);
            }
            if (depth >= DEEPEST) {
                return fails(ROOM);
            }
            return takes('(') && readSum(law, depth + 1) && takes(')');
        }

        /** Goes on behind the TOKEN looked at, if it is of this kind and the text has room for it. */
        private boolean takes(int kind) {
            boolean fits = tokens.kinds[at] == kind;
            if (!fits || at >= Tokens.MOST) {
                fault = fits ? ROOM : SYNTAX;
                place = tokens.places[at];
                return false;
            }
            at++;
            return true;
        }

        /** The TOKEN looked at is a FAULT with which the text ends. */
        private boolean fails(int kind) {
            fault = kind;
            place = tokens.places[at];
            return false;
        }

        private void notes(int kind, int token) {
            if (laterFault == 0) {
                laterFault = kind;
                laterPlace = tokens.places[token];
            }
        }
    }

    /** A LAW: its Es one behind the other, each with the signs behind what they join. */
    private static final class Law {
        static final int INT = 0;
        static final int VAR = 1;
        static final int AT = 0;
        static final int SECTION = 1;
        static final int GUST = 2;
        static final int WEIGHT = 3;
        static final int SKI = 4;
        static final int LATE = 5;
        static final int WHITE = 6;
        static final int BAR = 7;
        static final int LENGTH = 8;
        static final int LEAN = 9;
        static final int HOME = 10;
        private static final int VARS = 11;
        private static final int MOST_PIECES = 13;
        /** Six ( within one another leave no more than two numbers open in each, and two are joined. */
        private static final int DEEPEST = 16;

        /** INT, VAR or the byte of a sign. */
        private final int[] ops = new int[Tokens.MOST];
        private final int[] values = new int[Tokens.MOST];
        private final int[] ends = new int[MOST_PIECES];
        private final int[] vars = new int[VARS];
        private final int[] open = new int[DEEPEST];
        private int size;
        private int pieces;
        private boolean broken;

        void clear() {
            size = 0;
            pieces = 0;
        }

        void add(int op, int value) {
            if (size < ops.length) {
                ops[size] = op;
                values[size] = value;
                size++;
            }
        }

        void endPiece() {
            if (pieces < ends.length) {
                ends[pieces] = size;
                pieces++;
            }
        }

        /** What the LAW tells, if the text tells none. */
        void fillUntold(int number) {
            if (pieces == 0) {
                add(INT, number);
                endPiece();
            }
        }

        void set(int name, int value) {
            if (name >= 0 && name < vars.length) {
                vars[name] = value;
            }
        }

        /** What the LAW tells of the VARS as they were set. */
        int tells() {
            broken = false;
            for (int i = 0; i + 3 < pieces; i += 3) {
                boolean holds = worth(i) < worth(i + 1);
                if (broken) {
                    return 0;
                }
                if (holds) {
                    int then = worth(i + 2);
                    return broken ? 0 : then;
                }
            }
            int last = worth(pieces - 1);
            return broken ? 0 : last;
        }

        private int worth(int piece) {
            if (piece < 0 || piece >= pieces || piece >= ends.length) {
                return 0;
            }
            int count = 0;
            for (int i = piece == 0 ? 0 : ends[piece - 1]; i < ends[piece]; i++) {
                if (ops[i] == INT || ops[i] == VAR) {
                    if (count < open.length) {
                        open[count] = ops[i] == INT ? values[i] : vars[values[i]];
                        count++;
                    }
                } else if (count >= 2) {
                    count--;
                    open[count - 1] = joined(ops[i], open[count - 1], open[count]);
                }
            }
            return count == 1 ? open[0] : 0;
        }

        private int joined(int sign, int one, int other) {
            switch (sign) {
                case '+': return one + other;
                case '-': return one - other;
                case '*': return one * other;
                default:
                    if (other == 0) {
                        broken = true;
                        return 0;
                    }
                    return one / other;
            }
        }
    }

    /** MEN and JUDGES. */
    private static final class People {
        private final int[] weight = new int[MOST_MEN];
        private final int[] ski = new int[MOST_MEN];
        private final int[] slip = new int[MOST_MEN];
        private final int[] land = new int[MOST_MEN];
        private final int[] lean = new int[MOST_JUDGES];
        private final int[] judgeLand = new int[MOST_JUDGES];
        private int men;
        private int judges;

        void clear() {
            men = 0;
            judges = 0;
        }

        /** Whether there is no room for what a TELL that begins with this word would add. */
        boolean isFull(int word) {
            return (word == Tokens.MAN && men >= MOST_MEN) || (word == Tokens.JUDGE && judges >= MOST_JUDGES);
        }

        void addMan(int weighs, int hasSki, int slips, int from) {
            if (men < MOST_MEN) {
                weight[men] = weighs;
                ski[men] = hasSki;
                slip[men] = slips;
                land[men] = from;
                men++;
            }
        }

        void addJudge(int leans, int from) {
            if (judges < MOST_JUDGES) {
                lean[judges] = leans;
                judgeLand[judges] = from;
                judges++;
            }
        }
    }

    /** What a text tells. */
    private static final class Text {
        private final Law windLaw = new Law();
        private final Law farLaw = new Law();
        private final Law givesLaw = new Law();
        private final Law styleLaw = new Law();
        private final Law goesLaw = new Law();
        private final int[] parts = new int[SECTIONS];
        private final People people = new People();
        private int k;
        private int safe;
        private int metre;
        private int snow;
        private int gusts;
        private int waits;
        private int pauseBehind;
        private int gateTold;
        private int step;
        private int goOn;
        private int seed;

        /** Nothing is told. */
        void clear() {
            windLaw.clear();
            farLaw.clear();
            givesLaw.clear();
            styleLaw.clear();
            goesLaw.clear();
            Arrays.fill(parts, 1);
            people.clear();
            k = 900;
            safe = 1000;
            metre = 20;
            snow = 0;
            gusts = 0;
            waits = 10;
            pauseBehind = 60;
            gateTold = 20;
            step = 50;
            goOn = 8;
            seed = 0;
        }

        /** The LAWS that are not told: only behind the text's end, as that of FAR looks at the last K. */
        void fillUntold() {
            windLaw.fillUntold(0);
            givesLaw.fillUntold(0);
            styleLaw.fillUntold(170);
            goesLaw.fillUntold(1);
            if (farLaw.pieces == 0) {
                farLaw.add(Law.INT, k);
                farLaw.add(Law.INT, 2);
                farLaw.add(Law.VAR, Law.GUST);
                farLaw.add('*', 0);
                farLaw.add('+', 0);
                farLaw.add(Law.INT, 5);
                farLaw.add(Law.VAR, Law.BAR);
                farLaw.add('*', 0);
                farLaw.add('+', 0);
                farLaw.endPiece();
            }
        }
    }

    /** The wind and one JUMP in it: each step leaves what comes of it in the fields. */
    private static final class Flight {
        private static final int SLIP_LOTS = 100000;

        private final Text text;
        private final int[] marks = new int[MOST_JUDGES];
        private int seed;
        private int trueWind;
        private int meanWind;
        private int length;
        private int style;
        private int points;

        Flight(Text text) {
            this.text = text;
        }

        int windAt(int section, int second) {
            text.windLaw.set(Law.AT, second);
            text.windLaw.set(Law.SECTION, section);
            int gust = lot(2 * text.gusts + 1, 8 * second + section) - text.gusts;
            return held(text.windLaw.tells(), -99, 99) + gust;
        }

        /** TRUE and MEAN wind of a JUMP let go in this second. */
        void blow(int second) {
            int sum = 0;
            int weighted = 0;
            int parts = 0;
            for (int section = 0; section < SECTIONS; section++) {
                int wind = windAt(section, second + section);
                sum += wind;
                weighted += text.parts[section] * wind;
                parts += text.parts[section];
            }
            meanWind = sum / SECTIONS;
            trueWind = parts == 0 ? 0 : weighted / parts;
        }

        /** No wind blows. */
        void calmDown() {
            meanWind = 0;
            trueWind = 0;
        }

        int slipOf(int man, int second) {
            int slip = text.people.slip[man];
            return lot(2 * slip + 1, SLIP_LOTS + second) - slip;
        }

        /** Whether GOES lets a MAN go who has waited so long, in the wind that blows. */
        boolean goes(int man, int waited) {
            Law law = text.goesLaw;
            law.set(Law.AT, waited);
            law.set(Law.GUST, meanWind);
            law.set(Law.WEIGHT, text.people.weight[man]);
            law.set(Law.SKI, text.people.ski[man]);
            return law.tells() > 0;
        }

        int reachOf(int man, int late, int gate, int ahead) {
            return reach(text.people.weight[man], text.people.ski[man], late, gate, ahead);
        }

        /** LENGTH in the wind that blows, so many having started ahead. */
        int reach(int weight, int ski, int late, int gate, int ahead) {
            Law law = text.farLaw;
            law.set(Law.GUST, trueWind);
            law.set(Law.WEIGHT, weight);
            law.set(Law.SKI, ski);
            law.set(Law.LATE, late);
            law.set(Law.WHITE, text.snow * ahead);
            law.set(Law.BAR, gate - text.gateTold);
            length = held(law.tells(), 0, MOST_LENGTH);
            return length;
        }

        /** STYLE and POINTS for a LENGTH in the wind that blows. */
        void judge(int man, int late, int gate) {
            Law law = text.styleLaw;
            law.set(Law.LENGTH, length);
            law.set(Law.LATE, late);
            law.set(Law.GUST, trueWind);
            for (int judge = 0; judge < text.people.judges; judge++) {
                law.set(Law.LEAN, text.people.lean[judge]);
                law.set(Law.HOME, text.people.judgeLand[judge] == text.people.land[man] ? 1 : 0);
                marks[judge] = held(law.tells(), 0, 200);
            }
            style = styleOf(marks, 0, text.people.judges, NONE);
            points = pointsFor(length, style, givenFor(meanWind), gate);
        }

        /** What GIVES tells for a MEAN wind. */
        int givenFor(int mean) {
            text.givesLaw.set(Law.GUST, mean);
            return held(text.givesLaw.tells(), -999, 999);
        }

        int pointsFor(int far, int styled, int given, int gate) {
            int forLength = text.metre * (far - text.k) / 10;
            return Math.max(0, 600 + forLength + styled + given + text.step * (text.gateTold - gate));
        }

        /** How much STYLE of all can be at most. */
        int mostStyle() {
            Arrays.fill(marks, 200);
            return styleOf(marks, 0, text.people.judges, NONE);
        }

        private int lot(int n, int which) {
            if (n <= 1) {
                return 0;
            }
            int h = mixed(mixed(seed, 47), which);
            return (h >>> 1) % n;
        }

        private static int mixed(int h, int it) {
            int product = (h ^ it) * 1103515245 + 12345;
            return product ^ (product >>> 15);
        }
    }

    /** What goes on. */
    private static final class Play {
        /** What stands of each JUMP: first what jump() answers, then whether there was one, then the marks. */
        static final int LENGTH = 0;
        static final int POINTS = 1;
        static final int STYLE = 2;
        static final int LATE = 3;
        static final int SECOND = 4;
        static final int GATE = 5;
        static final int MEAN = 6;
        static final int AHEAD = 7;
        static final int WAS = 8;
        static final int MARKS = 9;
        private static final int CELLS = MARKS + MOST_JUDGES;
        private static final int ALL_CELLS = MOST_STARTS * CELLS;
        /** How long a row is in which all that goes on is saved: the numbers, then order, totals, cells. */
        static final int ROW = 5 + MOST_MEN + MOST_MEN + ALL_CELLS;

        private final Text text;
        private final int[] order = new int[MOST_MEN];
        private final int[] totals = new int[MOST_MEN];
        private final int[] cells = new int[ALL_CELLS];
        private int second;
        private int round;
        private int gate;
        private int started;
        /** How many are in this round. */
        private int size;

        Play(Text text) {
            this.text = text;
        }

        void begin() {
            second = 0;
            round = 1;
            gate = text.gateTold;
            started = 0;
            size = text.people.men;
            for (int i = 0; i < MOST_MEN; i++) {
                order[i] = i;
            }
            Arrays.fill(totals, 0);
            Arrays.fill(cells, 0);
        }

        /** Round 1 is started with the last number first. */
        void turnOrder() {
            for (int i = 0; i < size && i < MOST_MEN; i++) {
                order[i] = size - 1 - i;
            }
        }

        void copy(Play other) {
            second = other.second;
            round = other.round;
            gate = other.gate;
            started = other.started;
            size = other.size;
            System.arraycopy(other.order, 0, order, 0, MOST_MEN);
            System.arraycopy(other.totals, 0, totals, 0, MOST_MEN);
            System.arraycopy(other.cells, 0, cells, 0, ALL_CELLS);
        }

        void save(int[] row) {
            row[0] = second;
            row[1] = round;
            row[2] = gate;
            row[3] = started;
            row[4] = size;
            System.arraycopy(order, 0, row, 5, MOST_MEN);
            System.arraycopy(totals, 0, row, 5 + MOST_MEN, MOST_MEN);
            System.arraycopy(cells, 0, row, 5 + MOST_MEN + MOST_MEN, ALL_CELLS);
        }

        void load(int[] row) {
            second = row[0];
            round = row[1];
            gate = row[2];
            started = row[3];
            size = row[4];
            System.arraycopy(row, 5, order, 0, MOST_MEN);
            System.arraycopy(row, 5 + MOST_MEN, totals, 0, MOST_MEN);
            System.arraycopy(row, 5 + MOST_MEN + MOST_MEN, cells, 0, ALL_CELLS);
        }

        int nextMan() {
            return started < size && started < MOST_MEN ? order[started] : NOBODY;
        }

        /** Whether a MAN has a JUMP left in this round. */
        boolean isToStart(int man) {
            for (int i = started; i < size && i < MOST_MEN; i++) {
                if (order[i] == man) {
                    return true;
                }
            }
            return false;
        }

        boolean hasJump(int man, int round) {
            return within(man, 0, MOST_MEN - 1) && within(round, 1, 2) && cell(man, round, WAS) == 1;
        }

        int cell(int man, int round, int what) {
            int i = cellsOf(man, round) + what;
            return i >= 0 && i < ALL_CELLS ? cells[i] : 0;
        }

        int styleWithout(int man, int round, int judge) {
            return styleOf(cells, cellsOf(man, round) + MARKS, text.people.judges, judge);
        }

        /** The next one has made the JUMP that a flight was. */
        void enter(int man, int late, int letGoIn, Flight flight) {
            int from = cellsOf(man, round);
            if (!within(from, 0, ALL_CELLS - CELLS)) {
                return;
            }
            cells[from + LENGTH] = flight.length;
            cells[from + POINTS] = flight.points;
            cells[from + STYLE] = flight.style;
            cells[from + LATE] = late;
            cells[from + SECOND] = letGoIn;
            cells[from + GATE] = gate;
            cells[from + MEAN] = flight.meanWind;
            cells[from + AHEAD] = started;
            cells[from + WAS] = 1;
            System.arraycopy(flight.marks, 0, cells, from + MARKS, MOST_JUDGES);
            totals[man] += flight.points;
            second = letGoIn + text.pauseBehind;
            started++;
            if (started >= size) {
                beginNextRound();
            }
        }

        int rankOf(int man) {
            return rankAmong(totals, text.people.men, man);
        }

        int manOfRank(int rank) {
            for (int man = 0; man < text.people.men; man++) {
                if (rankOf(man) == rank) {
                    return man;
                }
            }
            return NONE;
        }

        /** How many POINTS who has most of the others has; 0 without others. */
        int mostOfOthers(int man) {
            int most = 0;
            for (int other = 0; other < text.people.men; other++) {
                if (other != man) {
                    most = Math.max(most, totals[other]);
                }
            }
            return most;
        }

        /** How many POINTS in all a MAN must have to be first, the others as they are. */
        int totalToBeFirst(int man) {
            int wanted = 0;
            for (int other = 0; other < text.people.men; other++) {
                if (other != man) {
                    wanted = Math.max(wanted, other < man ? totals[other] + 1 : totals[other]);
                }
            }
            return wanted;
        }

        /** What a JUDGE gave in all JUMPS that were, together. */
        int givenBy(int judge) {
            int sum = 0;
            for (int man = 0; man < text.people.men; man++) {
                for (int in = 1; in <= 2; in++) {
                    sum += hasJump(man, in) ? cell(man, in, MARKS + judge) : 0;
                }
            }
            return sum;
        }

        int jumpsBeyond(int length) {
            int count = 0;
            for (int man = 0; man < text.people.men; man++) {
                for (int in = 1; in <= 2; in++) {
                    if (hasJump(man, in) && cell(man, in, LENGTH) > length) {
                        count++;
                    }
                }
            }
            return count;
        }

        int longest() {
            int longest = 0;
            for (int man = 0; man < text.people.men; man++) {
                longest = Math.max(longest, Math.max(cell(man, 1, LENGTH), cell(man, 2, LENGTH)));
            }
            return longest;
        }

        private static int cellsOf(int man, int round) {
            return (man * 2 + round - 1) * CELLS;
        }

        /** Round 2: the worst first of those who are in it; round 3: nobody is. */
        private void beginNextRound() {
            round++;
            started = 0;
            size = round == 2 ? Math.min(text.goOn, text.people.men) : 0;
            for (int i = 0; i < size && i < MOST_MEN; i++) {
                order[i] = manOfRank(size - 1 - i);
            }
        }
    }

    /** What can be undone: what went on ahead of each of the last things done. */
    private static final class Kept {
        private static final int MOST = 40;

        private final int[][] rows = new int[MOST][Play.ROW];
        private int count;
        private int next;

        void clear() {
            count = 0;
            next = 0;
        }

        /** The oldest one goes when there is no room. */
        void keep(Play play) {
            play.save(rows[next]);
            next = (next + 1) % MOST;
            count = Math.min(count + 1, MOST);
        }

        boolean takeBack(Play play) {
            if (count == 0) {
                return false;
            }
            next = (next + MOST - 1) % MOST;
            count--;
            play.load(rows[next]);
            return true;
        }
    }

    private static final class Slots {
        private static final int MOST = 3;

        private final int[][] rows = new int[MOST][Play.ROW];
        private final boolean[] held = new boolean[MOST];

        void clear() {
            for (int slot = 0; slot < MOST; slot++) {
                held[slot] = false;
            }
        }

        boolean putInto(int slot, Play play) {
            if (!within(slot, 0, MOST - 1)) {
                return false;
            }
            play.save(rows[slot]);
            held[slot] = true;
            return true;
        }

        boolean giveBack(int slot, Play play) {
            if (!within(slot, 0, MOST - 1) || !held[slot]) {
                return false;
            }
            play.load(rows[slot]);
            return true;
        }

        int countHeld() {
            int count = 0;
            for (int slot = 0; slot < MOST; slot++) {
                count += held[slot] ? 1 : 0;
            }
            return count;
        }
    }

    /** What is TOLD of JUMPS. */
    private static final class Told {
        static final int MOST = 20;

        private final int[] man = new int[MOST];
        private final int[] second = new int[MOST];
        private final int[] length = new int[MOST];
        private int count;

        /** Its number, or NONE if there is no room. */
        int add(int who, int letGoIn, int far) {
            if (count >= MOST) {
                return NONE;
            }
            man[count] = who;
            second[count] = letGoIn;
            length[count] = far;
            count++;
            return count - 1;
        }
    }
}
