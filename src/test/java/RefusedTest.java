/**
 * Each call with all that it refuses: what it answers, and that nothing else has changed; that what would be leaves all
 * as it is; that what is undone is as if it had not been done.
 */
public final class RefusedTest {
    private static final int NO = -10000;
    private static final int MOST = Integer.MAX_VALUE;
    private static final int LEAST = Integer.MIN_VALUE;
    private static final String ANN = "man ann 50 200 0 0;";
    /** What is no number of one of four MEN, no JUDGE and no RANK. */
    private static final int[] NOT_FOUR = {-1, 4, 7, 8, MOST, LEAST};

    private final Check check = new Check();

    public static void main(String[] args) {
        RefusedTest test = new RefusedTest();
        test.refusedLooks();
        test.refusedJumps();
        test.refusedDeeds();
        test.refusedTries();
        test.refusedRest();
        test.refusedWithoutMen();
        test.refusedOfNobodyLeft();
        test.refusedOfFullOnes();
        test.looksChangeNothing();
        test.deedsUndone();
        test.check.end("RefusedTest");
    }

    private void due(String call, long want, long got) {
        check.due(call, want, got);
    }

    private void due(String call, boolean want, boolean got) {
        check.due(call, want, got);
    }

    /**
     * Four MEN, three of whom have started; four JUDGES; WAITS 2; the GATE 18 of 20; 4 things that can be undone; SLOT 1
     * holds something; two are TOLD; a FAULT was read at 7; 14 bytes stand on the tape.
     */
    static WindJump scene() {
        WindJump x = Check.told(PromiseTest.HILL + "man dan 55 250 9 0; gusts 3; seed 11;");
        x.start(2);
        x.gate(18);
        x.pause(5);
        x.hold(1);
        x.letGo(1);
        x.tell(0, 0, 944);
        x.tell(2, 3, 900);
        Check.read(x, "  snow 100;");
        Check.feed(x, "hill 777 888 9");
        return x;
    }

    /** Refused, the call answers so, and nothing has changed. */
    private void refused(String call, long want, Seen.Call made) {
        unchanged(call, scene(), scene(), want, made);
    }

    private void unchanged(String call, WindJump x, WindJump alike, long want, Seen.Call made) {
        due(call, want, made.of(x));
        due(call + ", then place()", alike.place(), x.place());
        check.due(call + ", then all", Seen.of(alike), Seen.of(x));
    }

    private void refusedLooks() {
        check.about("6: now: -10000 for others");
        for (int what : new int[] {-1, 7, 8, MOST, LEAST}) {
            refused("now(" + what + ")", NO, x -> x.now(what));
        }
        check.about("7: wind: -10000: no such ones");
        int[][] winds = {{-1, 0}, {5, 0}, {MOST, 0}, {LEAST, 0}, {0, -1}, {0, 100000}, {0, MOST}, {0, LEAST}, {-1, -1}};
        for (int[] w : winds) {
            refused("wind(" + w[0] + ", " + w[1] + ")", NO, x -> x.wind(w[0], w[1]));
        }
        check.about("3: back");
        for (int n : new int[] {-1, 15, MOST, LEAST}) {
            refused("back(" + n + ")", -1, x -> x.back(n));
        }
        check.about("10 to 12: NONE: no such one");
        for (int none : NOT_FOUR) {
            refused("points(" + none + ")", -1, x -> x.points(none));
            refused("rank(" + none + ")", -1, x -> x.rank(none));
            refused("ranked(" + none + ")", -1, x -> x.ranked(none));
        }
        check.about("34: windiest: NONE: no such one");
        for (int second : new int[] {-1, 100000, MOST, LEAST}) {
            refused("windiest(" + second + ")", -1, x -> x.windiest(second));
        }
        check.about("42: count: NONE for others");
        for (int what : new int[] {-1, 13, 14, MOST, LEAST}) {
            refused("count(" + what + ")", -1, x -> x.count(what));
        }
    }

    private void refusedJumps() {
        check.about("8: jump: -10000: he had none, no such ones");
        int[][] jumps = {{3, 1, 0}, {0, 2, 0}, {3, 2, 0}, {0, 0, 0}, {0, 3, 0}, {1, -1, 0}, {0, MOST, 0}, {0, LEAST, 0}, {0, 1, -1},
            {0, 1, 8}, {0, 1, 9}, {0, 1, MOST}, {0, 1, LEAST}};
        for (int[] j : jumps) {
            refused("jump(" + j[0] + ", " + j[1] + ", " + j[2] + ")", NO, x -> x.jump(j[0], j[1], j[2]));
        }
        check.about("9: mark: -10000: he had none, no such ones");
        int[][] marks = {{3, 1, 0}, {0, 2, 0}, {0, 0, 0}, {0, 3, 0}, {1, -1, 0}, {0, MOST, 0}, {0, LEAST, 0}};
        for (int[] m : marks) {
            refused("mark(" + m[0] + ", " + m[1] + ", " + m[2] + ")", NO, x -> x.mark(m[0], m[1], m[2]));
        }
        for (int none : NOT_FOUR) {
            refused("jump(" + none + ", 1, 0)", NO, x -> x.jump(none, 1, 0));
            refused("mark(" + none + ", 1, 0)", NO, x -> x.mark(none, 1, 0));
            refused("mark(0, 1, " + none + ")", NO, x -> x.mark(0, 1, none));
            refused("progress(" + none + ")", NO, x -> x.progress(none));
        }
        check.about("35: progress: -10000: he had not both");
        refused("progress(0)", NO, x -> x.progress(0));
        refused("progress(3)", NO, x -> x.progress(3));
    }

    private void refusedDeeds() {
        check.about("13: start: NONE, and nothing happens: no such n");
        for (int n : new int[] {0, -1, 17, 18, MOST, LEAST}) {
            refused("start(" + n + ")", -1, x -> x.start(n));
        }
        check.about("14: letGo: NONE, and nothing happens: no such n (0 to WAITS)");
        for (int n : new int[] {-1, 3, 4, MOST, LEAST}) {
            refused("letGo(" + n + ")", -1, x -> x.letGo(n));
        }
        check.about("15: gate: false, and nothing happens: it is that, no such one");
        for (int gate : new int[] {18, -1, 41, 42, MOST, LEAST}) {
            refused("gate(" + gate + ")", 0, x -> x.gate(gate) ? 1 : 0);
        }
        check.about("16: pause: NONE, and nothing happens: no such n");
        for (int n : new int[] {0, -1, 1000, 1001, MOST, LEAST}) {
            refused("pause(" + n + ")", -1, x -> x.pause(n));
        }
        check.about("40, 41: false: no such one, nothing is held");
        for (int slot : new int[] {-1, 3, 4, MOST, LEAST}) {
            refused("hold(" + slot + ")", 0, x -> x.hold(slot) ? 1 : 0);
            refused("restore(" + slot + ")", 0, x -> x.restore(slot) ? 1 : 0);
        }
        refused("restore(0)", 0, x -> x.restore(0) ? 1 : 0);
        refused("restore(2)", 0, x -> x.restore(2) ? 1 : 0);
        check.about("37: tell: NONE, and nothing happens: no such ones");
        int[][] tells = {{0, -1, 0}, {0, 10000, 0}, {0, MOST, 0}, {0, LEAST, 0}, {0, 0, -1}, {0, 0, 10000}, {0, 0, MOST}, {0, 0, LEAST}};
        for (int[] t : tells) {
            refused("tell(" + t[0] + ", " + t[1] + ", " + t[2] + ")", -1, x -> x.tell(t[0], t[1], t[2]));
        }
        for (int none : NOT_FOUR) {
            refused("tell(" + none + ", 0, 0)", -1, x -> x.tell(none, 0, 0));
        }
    }

    private void refusedTries() {
        check.about("18: attempt: -10000: no such ones");
        int[][] tries = {{0, -1, 0, 0}, {0, 1000, 0, 0}, {0, MOST, 0, 0}, {0, LEAST, 0, 0}, {0, 0, -10, 0}, {0, 0, 10, 0},
            {0, 0, MOST, 0}, {0, 0, LEAST, 0}, {0, 0, 0, -1}, {0, 0, 0, 3}, {0, 0, 0, MOST}, {0, 0, 0, LEAST}};
        for (int[] t : tries) {
            refused("attempt(" + t[1] + ", " + t[2] + ", " + t[3] + ")", NO, x -> x.attempt(t[0], t[1], t[2], t[3]));
        }
        check.about("19: wait: NONE: no such ones");
        for (int what : new int[] {-1, 4, MOST, LEAST}) {
            refused("wait(0, " + what + ")", -1, x -> x.wait(0, what));
        }
        check.about("20: cost: -10000: no such ones (-9 .. 9)");
        for (int late : new int[] {-10, 10, MOST, LEAST}) {
            refused("cost(0, " + late + ", true)", NO, x -> x.cost(0, late, true));
            refused("cost(0, " + late + ", false)", NO, x -> x.cost(0, late, false));
        }
        check.about("21: pound: -10000: no such ones");
        int[][] pounds = {{-1, 0}, {31, 0}, {MOST, 0}, {LEAST, 0}, {0, -1}, {0, 61}, {0, MOST}, {0, LEAST}};
        for (int[] p : pounds) {
            refused("pound(0, " + p[0] + ", " + p[1] + ")", NO, x -> x.pound(0, p[0], p[1]));
        }
        check.about("29: atGate: -10000: no such ones");
        for (int gate : new int[] {-1, 41, MOST, LEAST}) {
            refused("atGate(0, " + gate + ", true)", NO, x -> x.atGate(0, gate, true));
            refused("atGate(0, " + gate + ", false)", NO, x -> x.atGate(0, gate, false));
        }
        check.about("18 to 23, 29: no such MAN");
        for (int none : NOT_FOUR) {
            refused("attempt(" + none + ")", NO, x -> x.attempt(none, 0, 0, 0));
            refused("wait(" + none + ")", -1, x -> x.wait(none, 0));
            refused("cost(" + none + ")", NO, x -> x.cost(none, 0, true));
            refused("pound(" + none + ")", NO, x -> x.pound(none, 0, 0));
            refused("gain(" + none + ")", NO, x -> x.gain(none));
            refused("number(" + none + ")", NO, x -> x.number(none));
            refused("atGate(" + none + ")", NO, x -> x.atGate(none, 0, true));
        }
    }

    private void refusedRest() {
        check.about("24: gates: NONE for others");
        for (int what : new int[] {-1, 2, MOST, LEAST}) {
            refused("gates(" + what + ")", -1, x -> x.gates(what));
        }
        check.about("25: crown: NONE: no such ones");
        for (int s : new int[] {-1, 0, 11, MOST, LEAST}) {
            refused("crown(0, " + s + ")", -1, x -> x.crown(0, s));
        }
        check.about("25 to 31: NONE (30: -10000): no such one");
        for (int none : NOT_FOUR) {
            refused("crown(" + none + ", 1)", -1, x -> x.crown(none, 1));
            refused("without(" + none + ", 0)", -1, x -> x.without(none, 0));
            refused("without(0, " + none + ")", -1, x -> x.without(0, none));
            refused("needs(" + none + ")", -1, x -> x.needs(none));
            refused("spread(" + none + ")", -1, x -> x.spread(none));
            refused("lead(" + none + ")", NO, x -> x.lead(none));
            refused("reversed(" + none + ")", -1, x -> x.reversed(none));
        }
        check.about("27: needs: NONE: he has no JUMP left in this round");
        refused("needs(0)", -1, x -> x.needs(0));
        refused("needs(2)", -1, x -> x.needs(2));
        check.about("32: harsh: NONE for others");
        for (int what : new int[] {-1, 2, MOST, LEAST}) {
            refused("harsh(true, " + what + ")", -1, x -> x.harsh(true, what));
            refused("harsh(false, " + what + ")", -1, x -> x.harsh(false, what));
            refused("calm(0, " + what + ")", NO, x -> x.calm(0, what));
        }
        check.about("33: calm: -10000: no such ones");
        for (int n : new int[] {-1, 1000, MOST, LEAST}) {
            refused("calm(" + n + ", 0)", NO, x -> x.calm(n, 0));
        }
        check.about("36: himself: -10000 for others");
        for (int what : new int[] {-1, 3, MOST, LEAST}) {
            refused("himself(" + what + ")", NO, x -> x.himself(what));
        }
        check.about("39: slips: NONE: no such ones, not so many");
        int[][] slips = {{0, -1, -1}, {0, 3, -1}, {0, MOST, -1}, {0, LEAST, -1}, {0, 0, 19}, {0, 0, MOST}, {0, 0, -2}, {0, 0, LEAST}};
        for (int[] s : slips) {
            refused("slips(" + s[0] + ", " + s[1] + ", " + s[2] + ")", -1, x -> x.slips(s[0], s[1], s[2]));
        }
        for (int none : NOT_FOUR) {
            refused("slips(" + none + ", 0, -1)", -1, x -> x.slips(none, 0, -1));
        }
    }

    private void refusedWithoutMen() {
        WindJump x = new WindJump();
        for (int man : new int[] {-1, 0, 1, 7}) {
            check.about("no MEN: no such one: " + man);
            long[] none = {x.points(man), x.rank(man), x.ranked(man), x.wait(man, 0), x.crown(man, 1), x.without(man, 0),
                x.needs(man), x.spread(man), x.reversed(man), x.tell(man, 0, 0), x.slips(man, 0, -1)};
            for (int i = 0; i < none.length; i++) {
                due("NONE " + i, -1, none[i]);
            }
            long[] no = {x.jump(man, 1, 0), x.mark(man, 1, 0), x.attempt(man, 0, 0, 0), x.cost(man, 0, true), x.pound(man, 0, 0),
                x.gain(man), x.number(man), x.atGate(man, 0, true), x.lead(man), x.progress(man)};
            for (int i = 0; i < no.length; i++) {
                due("-10000 " + i, NO, no[i]);
            }
        }
        check.about("24: gates without MEN: no MAN gets beyond SAFE");
        due("gates(0)", 40, x.gates(0));
        due("gates(1)", 0, x.gates(1));
        check.about("13 to 17, 38, 41: a new object");
        unchanged("start(1)", x, new WindJump(), -1, y -> y.start(1));
        unchanged("letGo(0)", new WindJump(), new WindJump(), -1, y -> y.letGo(0));
        unchanged("undo", new WindJump(), new WindJump(), 0, y -> y.undo() ? 1 : 0);
        unchanged("restore(0)", new WindJump(), new WindJump(), 0, y -> y.restore(0) ? 1 : 0);
        unchanged("forget", new WindJump(), new WindJump(), 0, WindJump::forget);
        check.about("9, 26: no JUDGES: no such one");
        WindJump alone = Check.told(ANN);
        alone.start(1);
        due("mark", NO, alone.mark(0, 1, 0));
        due("without", -1, alone.without(0, 0));
    }

    /** All has been started: the HILL's three MEN and the two of round 2. */
    private static WindJump over() {
        WindJump x = Check.told(PromiseTest.HILL);
        x.start(16);
        return x;
    }

    private void refusedOfNobodyLeft() {
        check.about("13, 14: NONE, and nothing happens: nobody starts");
        for (int n : new int[] {1, 16}) {
            unchanged("start", over(), over(), -1, x -> x.start(n));
        }
        unchanged("letGo(0)", over(), over(), -1, x -> x.letGo(0));
        unchanged("letGo(2)", over(), over(), -1, x -> x.letGo(2));
        check.about("27: NONE: no JUMP left in this round");
        for (int man = 0; man < 3; man++) {
            due("needs in round 3", -1, over().needs(man));
        }
        check.about("15, 16: in round 3 too");
        WindJump x = over();
        due("gate", true, x.gate(7));
        due("pause", 51, x.pause(1));
        due("undo", true, x.undo() && x.undo() && x.undo());
        due("round", 1, x.now(1));
    }

    private static WindJump twenty() {
        WindJump x = scene();
        for (int n = 2; n < 20; n++) {
            x.tell(n % 4, 9999, 9999);
        }
        return x;
    }

    private void refusedOfFullOnes() {
        check.about("37: NONE, and nothing happens: 20 are there");
        due("TOLD", 20, twenty().count(10));
        unchanged("tell", twenty(), twenty(), -1, x -> x.tell(0, 0, 944));
        unchanged("tell", twenty(), twenty(), -1, x -> x.tell(3, 9999, 9999));
        WindJump x = twenty();
        due("forget", 20, x.forget());
        due("tell", 0, x.tell(0, 0, 944));
        due("TOLD", 1, x.count(10));
    }

    /** III. What would be (nothing happens): each call that only looks, with all that it may be asked. */
    private void looksChangeNothing() {
        Seen.Call[] looks = {x -> x.place(), x -> x.now(5), x -> x.now(6), x -> x.wind(4, 99999), x -> x.jump(2, 1, 7),
            x -> x.mark(2, 1, 3), x -> x.points(3), x -> x.rank(3), x -> x.ranked(3), x -> x.attempt(3, 999, 9, 0),
            x -> x.attempt(0, 0, -9, 1), x -> x.attempt(0, 17, -9, 2), x -> x.wait(3, 0), x -> x.wait(3, 1), x -> x.wait(3, 2),
            x -> x.wait(3, 3), x -> x.cost(3, 9, true), x -> x.cost(3, -9, false), x -> x.pound(3, 30, 60), x -> x.pound(3, 0, 0),
            x -> x.gain(3), x -> x.number(3), x -> x.gates(0), x -> x.gates(1), x -> x.crown(3, 10), x -> x.crown(0, 1),
            x -> x.without(3, 3), x -> x.without(0, 0), x -> x.needs(3), x -> x.spread(3), x -> x.atGate(3, 0, true),
            x -> x.atGate(3, 40, false), x -> x.lead(3), x -> x.reversed(3), x -> x.harsh(true, 0), x -> x.harsh(false, 1),
            x -> x.calm(999, 0), x -> x.calm(0, 1), x -> x.windiest(99999), x -> x.himself(0), x -> x.himself(1), x -> x.himself(2),
            x -> x.slips(0, 2, -1), x -> x.slips(3, 2, 18), x -> x.count(12), x -> x.count(7)};
        for (int i = 0; i < looks.length; i++) {
            check.about("III: What would be (nothing happens): look " + i);
            unchanged("look", scene(), scene(), looks[i].of(scene()), looks[i]);
        }
        check.about("III: one look does not sway another");
        WindJump all = scene();
        for (int i = 0; i < looks.length; i++) {
            due("look " + i, looks[i].of(scene()), looks[i].of(all));
        }
    }

    private void deedsUndone() {
        Seen.Call[] deeds = {x -> x.start(1), x -> x.start(16), x -> x.letGo(0), x -> x.letGo(2), x -> x.gate(0) ? 1 : 0,
            x -> x.gate(40) ? 1 : 0, x -> x.pause(1), x -> x.pause(999)};
        for (int i = 0; i < deeds.length; i++) {
            check.about("17: The last thing done (start, letGo, gate, pause) is undone: deed " + i);
            WindJump x = scene();
            deeds[i].of(x);
            due("one more can be undone", 5, x.count(9));
            due("undo", true, x.undo());
            due("place", 7, x.place());
            check.due("all", Seen.of(scene()), Seen.of(x));
        }
        check.about("17: neither hold nor tell, forget, feed, back or a look can be undone");
        WindJump x = scene();
        x.hold(2);
        x.tell(0, 0, 1);
        x.feed(0, 0, 0, 0, 0);
        x.back(20);
        x.crown(0, 10);
        x.reversed(0);
        due("things that can be undone", 4, x.count(9));
        due("undo", true, x.undo());
        due("the JUMP of cid is undone", NO, x.jump(2, 1, 0));
        due("TOLD", 3, x.count(10));
        due("SLOTS", 2, x.count(11));
        due("bytes", 14, x.count(8));
        due("forget", 3, x.forget());
        due("things that can be undone", 3, x.count(9));
        check.about("17: what was undone does not come back");
        due("undo", true, x.undo() && x.undo() && x.undo());
        due("undo", false, x.undo());
        due("second", 0, x.now(0));
        due("GATE", 20, x.now(2));
        due("next", 0, x.now(3));
        check.about("2, 3, 37, 38, 40: and what they change is that alone");
        x = scene();
        x.feed(1, 2, 3, 4, 5);
        x.back(20);
        check.due("feed and back", Seen.of(scene()), Seen.of(x));
        x = scene();
        x.forget();
        x.tell(0, 0, 944);
        x.tell(2, 3, 900);
        check.due("forget and tell", Seen.of(scene()), Seen.of(x));
    }
}
