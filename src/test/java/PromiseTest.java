/**
 * Each promise of the document, with numbers worked out by hand. On HILL, let go in second t, so LATE, a having
 * started ahead, at the GATE told: TRUE wind 22 - t, MEAN wind 18 - t, LENGTH of ann 944 - 2t - late * late - 4a,
 * of bob 943 - .. , of cid 941 - .. ; STYLE of all 366, 364, 364, and 4 less for each second LATE.
 */
public final class PromiseTest {
    static final String HILL = "hill 900 1000 20; wind = 10 + section * 5 - at; parts 1 0 0 0 3;"
        + "far = 900 + gust * 2 + bar * 10 - late * late - white - weight / 10 + ski / 50; gives = 0 - gust;"
        + "style = 180 - late * 2 + lean + home * 5; goes = 1; man ann 50 250 0 1; man bob 60 260 0 2;"
        + "man cid 70 240 0 3; judge x 3 1; judge y - 2 2; judge z 0 3; judge w 1 1; snow 4; waits 2 10;"
        + "gate 20 30; second 2;";
    private static final int NO = -10000;

    private final Check check = new Check();
    private WindJump x;

    public static void main(String[] args) {
        PromiseTest test = new PromiseTest();
        test.tape();
        test.nowAndWind();
        test.jumps();
        test.startByLaw();
        test.byHand();
        test.undone();
        test.wouldBe();
        test.bestWait();
        test.costs();
        test.gatesAndSafe();
        test.crowns();
        test.withoutJudge();
        test.needs();
        test.spreadAndGate();
        test.ranks();
        test.harshAndCalm();
        test.himself();
        test.told();
        test.slots();
        test.counts();
        test.style();
        test.laws();
        test.check.end("PromiseTest");
    }

    private void begin(String promise, String text) {
        check.about(promise);
        x = Check.told(text);
    }

    private void due(String call, long want, long got) {
        check.due(call, want, got);
    }

    private void due(String call, boolean want, boolean got) {
        check.due(call, want, got);
    }

    /** 1 to 4; the FAULTS have a test of their own. */
    private void tape() {
        check.about("1 new object");
        x = new WindJump();
        due("now(1)", 1, x.now(1));
        due("now(3)", -2, x.now(3));
        due("place", -1, x.place());
        for (int what = 0; what <= 12; what++) {
            due("count(" + what + ")", new int[] {0, 0, 900, 1000, 20, 10, 8, 0, 0, 0, 0, 0, 0}[what], x.count(what));
        }
        check.about("2 feed");
        for (int n = 1; n <= 100; n++) {
            due("feed", 20 * n, x.feed(0x20202020, 0x20202020, 0x20202020, 0x20202020, 0x20202020));
        }
        due("feed beyond 2000", -1, x.feed(0, 0, 0, 0, 0));
        due("count(8)", 2000, x.count(8));
        check.about("3 back");
        due("back(-1)", -1, x.back(-1));
        due("back(2001)", -1, x.back(2001));
        due("back(0)", 2000, x.back(0));
        due("back(19)", 1981, x.back(19));
        due("feed beyond 2000", -1, x.feed(0, 0, 0, 0, 0));
        due("back(1)", 1980, x.back(1));
        due("feed", 2000, x.feed(0, 0, 0, 0, 0x23000000));
        due("back(1999)", 1, x.back(1999));
        due("back(1)", 0, x.back(1));
        due("back(1)", -1, x.back(1));
        check.about("2 the highest byte first");
        due("feed", 20, x.feed(0x736e6f77, 0x20373b20, 0x20202020, 0x20202020, 0x20203b3b));
        due("back", 18, x.back(2));
        due("read", 0, x.read());
        check.about("4 read");
        due("count(8)", 0, x.count(8));
        begin("4 read begins anew", HILL);
        x.start(1);
        x.gate(3);
        x.hold(1);
        x.tell(0, 0, 5);
        due("a fault", 1, Check.read(x, "man dan 50 200 0 0; man"));
        due("place", 23, x.place());
        due("count(8)", 0, x.count(8));
        due("men stay", 3, x.count(0));
        due("second stays", 10, x.now(0));
        due("undoable stays", 2, x.count(9));
        due("told stays", 1, x.count(10));
        due("slots stay", 1, x.count(11));
        due("a text", 0, Check.read(x, "man dan 50 200 0 0; gate 7 1;"));
        due("place", -1, x.place());
        due("men", 1, x.count(0));
        due("judges", 0, x.count(1));
        due("second", 0, x.now(0));
        due("round", 1, x.now(1));
        due("gate", 7, x.now(2));
        due("started", 0, x.now(4));
        due("undoable", 0, x.count(9));
        due("told", 0, x.count(10));
        due("slots", 0, x.count(11));
        due("restore", false, x.restore(1));
        due("jump", NO, x.jump(0, 1, 0));
    }

    /** 6, 7, 34 */
    private void nowAndWind() {
        begin("6 now", HILL);
        int[] now = {0, 1, 20, 0, 0, 18, 22};
        for (int what = 0; what < 7; what++) {
            due("now(" + what + ")", now[what], x.now(what));
        }
        due("now(-1)", NO, x.now(-1));
        due("now(7)", NO, x.now(7));
        x.pause(4);
        due("now(5)", 14, x.now(5));
        due("now(6)", 18, x.now(6));
        begin("7 wind", HILL);
        due("wind(0, 0)", 10, x.wind(0, 0));
        due("wind(4, 0)", 30, x.wind(4, 0));
        due("wind(3, 27)", -2, x.wind(3, 27));
        due("wind(0, 109)", -99, x.wind(0, 109));
        due("wind(0, 110)", -99, x.wind(0, 110));
        due("wind(4, 99999)", -99, x.wind(4, 99999));
        due("wind(5, 0)", NO, x.wind(5, 0));
        due("wind(-1, 0)", NO, x.wind(-1, 0));
        due("wind(0, -1)", NO, x.wind(0, -1));
        due("wind(0, 100000)", NO, x.wind(0, 100000));
        due("windiest(0)", 4, x.windiest(0));
        due("windiest(20)", 0, x.windiest(20));
        due("windiest(19)", 4, x.windiest(19));
        due("windiest(99999)", 0, x.windiest(99999));
        due("windiest(-1)", -1, x.windiest(-1));
        due("windiest(100000)", -1, x.windiest(100000));
        begin("7 gusts", "gusts 5; seed 77;");
        int[][] gusts = {{5, 2, -1, -1, 1}, {-3, 5, -5, -5, -2}, {4, 3, -4, 4, -4}};
        for (int k = 0; k < 5; k++) {
            due("wind(" + k + ", 0)", gusts[0][k], x.wind(k, 0));
            due("wind(" + k + ", 3)", gusts[1][k], x.wind(k, 3));
            due("wind(" + k + ", 99999)", gusts[2][k], x.wind(k, 99999));
        }
        begin("7 gusts come behind the holding", "gusts 30; wind = 0 - 500;");
        due("wind(0, 0)", -123, x.wind(0, 0));
        due("wind(3, 0)", -90, x.wind(3, 0));
        begin("6 no parts", "parts 0 0 0 0 0; wind = 0 - 3 - at;");
        due("MEAN", -5, x.now(5));
        due("TRUE", 0, x.now(6));
        begin("6 towards 0", "parts 9 0 0 0 1; wind = 0 - at * 2;");
        due("MEAN", -4, x.now(5));
        due("TRUE", 0, x.now(6));
        x.pause(1);
        due("TRUE", -2, x.now(6));
    }

    private void dueJump(int man, int round, int... due) {
        for (int what = 0; what < due.length; what++) {
            due("jump(" + man + ", " + round + ", " + what + ")", due[what], x.jump(man, round, what));
        }
    }

    private void dueAll(String call, int[] want, int[] got) {
        for (int i = 0; i < want.length; i++) {
            due(call + " of " + i, want[i], got[i]);
        }
    }

    /** 8 to 13, 30, 32, 35: all of HILL. */
    private void jumps() {
        begin("13 start", HILL);
        due("start(0)", -1, x.start(0));
        due("start(17)", -1, x.start(17));
        due("nothing to undo", 0, x.count(9));
        due("start(2)", 2, x.start(2));
        check.about("8 jump");
        dueJump(0, 1, 944, 1036, 366, 0, 0, 20, 18, 0);
        dueJump(1, 1, 919, 994, 364, 0, 10, 20, 8, 1);
        due("jump(2, 1, 0)", NO, x.jump(2, 1, 0));
        due("jump(0, 2, 0)", NO, x.jump(0, 2, 0));
        due("jump(0, 0, 0)", NO, x.jump(0, 0, 0));
        due("jump(0, 3, 0)", NO, x.jump(0, 3, 0));
        due("jump(0, 1, 8)", NO, x.jump(0, 1, 8));
        due("jump(0, 1, -1)", NO, x.jump(0, 1, -1));
        due("jump(3, 1, 0)", NO, x.jump(3, 1, 0));
        due("jump(-1, 1, 0)", NO, x.jump(-1, 1, 0));
        check.about("11, 12 those who have not started have 0");
        due("rank(2)", 2, x.rank(2));
        due("points(2)", 0, x.points(2));
        due("now(3)", 2, x.now(3));
        due("start(1)", 1, x.start(1));
        dueJump(2, 1, 893, 952, 364, 0, 20, 20, -2, 2);
        check.about("6 round 2: the worst first of those in it");
        due("round", 2, x.now(1));
        due("next", 1, x.now(3));
        due("started", 0, x.now(4));
        due("second", 30, x.now(0));
        check.about("13 as many as there are");
        due("start(16)", 2, x.start(16));
        dueJump(1, 2, 883, 942, 364, 0, 30, 20, -12, 0);
        dueJump(0, 2, 860, 908, 366, 0, 40, 20, -22, 1);
        due("round", 3, x.now(1));
        due("next", -2, x.now(3));
        due("started", 0, x.now(4));
        due("second", 50, x.now(0));
        due("start(1)", -1, x.start(1));
        due("letGo(0)", -1, x.letGo(0));
        afterAll();
    }

    private void afterAll() {
        check.about("9 mark");
        dueAll("mark", new int[] {188, 178, 180, 186, NO, NO},
            new int[] {x.mark(0, 1, 0), x.mark(0, 1, 1), x.mark(0, 2, 2), x.mark(0, 2, 3), x.mark(0, 1, 4), x.mark(0, 1, -1)});
        due("mark(2, 1, 2)", 185, x.mark(2, 1, 2));
        due("mark(2, 2, 0)", NO, x.mark(2, 2, 0));
        due("mark(0, 3, 0)", NO, x.mark(0, 3, 0));
        due("mark(3, 1, 0)", NO, x.mark(3, 1, 0));
        due("mark(-1, 1, 0)", NO, x.mark(-1, 1, 0));
        check.about("10 to 12");
        int[] points = {1944, 1936, 952};
        for (int man = 0; man < 3; man++) {
            due("points(" + man + ")", points[man], x.points(man));
            due("rank(" + man + ")", man, x.rank(man));
            due("ranked(" + man + ")", man, x.ranked(man));
        }
        for (int none : new int[] {-1, 3, 8, Integer.MIN_VALUE, Integer.MAX_VALUE}) {
            due("points", -1, x.points(none));
            due("rank", -1, x.rank(none));
            due("ranked", -1, x.ranked(none));
            due("lead", NO, x.lead(none));
            due("progress", NO, x.progress(none));
        }
        check.about("30 lead");
        due("lead(0)", 8, x.lead(0));
        due("lead(1)", -8, x.lead(1));
        due("lead(2)", -992, x.lead(2));
        check.about("35 progress");
        due("progress(0)", -84, x.progress(0));
        due("progress(1)", -36, x.progress(1));
        due("progress(2)", NO, x.progress(2));
        check.about("32 harsh");
        due("harsh(false, 0)", 1, x.harsh(false, 0));
        due("harsh(false, 1)", 900, x.harsh(false, 1));
        due("harsh(true, 0)", 0, x.harsh(true, 0));
        due("harsh(true, 1)", 925, x.harsh(true, 1));
        due("harsh(true, 2)", -1, x.harsh(true, 2));
        due("harsh(false, -1)", -1, x.harsh(false, -1));
        check.about("18 round 3: nobody has started");
        due("attempt(0, 0, 0, 0)", 844, x.attempt(0, 0, 0, 0));
        due("needs(0)", -1, x.needs(0));
        due("crown(0, 10)", 10, x.crown(0, 10));
        due("crown(1, 10)", 0, x.crown(1, 10));
    }

    /** 13: GOES and SLIPS. */
    private void startByLaw() {
        String man = "wind = at; waits 9 1; man ann 50 200 0 0;";
        begin("13 goes: the gust", man + "goes = gust - 5;");
        due("start", 1, x.start(1));
        due("let go in", 4, x.jump(0, 1, 4));
        due("second", 5, x.now(0));
        begin("13 goes: not more than 0", man + "goes = 0;");
        due("start", 1, x.start(1));
        due("let go in", 9, x.jump(0, 1, 4));
        begin("13 goes: the seconds waited", man + "goes = at - 2;");
        x.pause(30);
        x.start(1);
        due("let go in", 33, x.jump(0, 1, 4));
        begin("13 goes: weight and ski", man + "goes = weight * at + ski - 300;");
        x.start(1);
        due("let go in", 3, x.jump(0, 1, 4));
        begin("13 goes: what is not told for it", man + "goes = at + section + late + white + bar + length + lean + home;");
        x.start(1);
        due("let go in", 1, x.jump(0, 1, 4));
        begin("13 no waiting", "waits 0 300; goes = 0; man ann 50 200 0 0;");
        x.start(1);
        due("second", 300, x.now(0));
        begin("13 slips", "seed 77; waits 9 10; man ann 50 200 9 0; man bob 50 200 4 0; far = 900 + late;");
        x.start(16);
        due("ann's LATE", -8, x.jump(0, 1, 3));
        due("ann's LENGTH", 892, x.jump(0, 1, 0));
        due("bob's LATE", 1, x.jump(1, 1, 3));
        due("ann's LATE in round 2", 3, x.jump(0, 2, 3));
        due("bob's LATE in round 2", 2, x.jump(1, 2, 3));
        begin("13 all of eight in round 2", "man a 50 200 0 0; man b 50 200 0 0; man c 50 200 0 0; man d 50 200 0 0;"
            + "man e 50 200 0 0; man f 50 200 0 0; man g 50 200 0 0; man h 50 200 0 0;");
        due("start(16)", 16, x.start(16));
        due("round", 3, x.now(1));
        due("last in round 2", 7, x.jump(0, 2, 7));
        due("seconds", 900, x.jump(0, 2, 4));
    }

    /** 14 to 16 */
    private void byHand() {
        begin("14 letGo", HILL + "goes = 0;");
        due("letGo(-1)", -1, x.letGo(-1));
        due("letGo(3)", -1, x.letGo(3));
        due("nothing to undo", 0, x.count(9));
        due("letGo(1)", 942, x.letGo(1));
        due("let go in", 1, x.jump(0, 1, 4));
        due("second", 11, x.now(0));
        due("letGo(2)", 943 - 2 * 13 - 4, x.letGo(2));
        check.about("15 gate");
        due("gate(20)", false, x.gate(20));
        due("gate(-1)", false, x.gate(-1));
        due("gate(41)", false, x.gate(41));
        due("undoable", 2, x.count(9));
        due("gate(40)", true, x.gate(40));
        due("gate(0)", true, x.gate(0));
        due("gate(22)", true, x.gate(22));
        due("now(2)", 22, x.now(2));
        due("undoable", 5, x.count(9));
        check.about("16 pause");
        due("pause(0)", -1, x.pause(0));
        due("pause(1000)", -1, x.pause(1000));
        due("pause(-5)", -1, x.pause(-5));
        due("undoable", 5, x.count(9));
        due("pause(2)", 25, x.pause(2));
        check.about("14 at the gate that is");
        due("letGo(0)", 941 - 50 - 8 + 20, x.letGo(0));
        due("gate", 22, x.jump(2, 1, 5));
        due("POINTS", 600 + 6 + 364 + 7 - 60, x.jump(2, 1, 1));
        x.pause(999);
        due("second", 25 + 10 + 999, x.now(0));
    }

    /** 17 */
    private void undone() {
        begin("17 undo", HILL);
        due("undo", false, x.undo());
        x.start(3);
        x.letGo(1);
        x.gate(3);
        x.pause(7);
        due("undoable", 4, x.count(9));
        due("undo", true, x.undo());
        due("second", 41, x.now(0));
        due("gate", 3, x.now(2));
        due("undo", true, x.undo());
        due("gate", 20, x.now(2));
        due("undo", true, x.undo());
        due("round", 2, x.now(1));
        due("next", 1, x.now(3));
        due("jump", NO, x.jump(1, 2, 0));
        due("points", 994, x.points(1));
        due("undo: all three STARTS are one thing", true, x.undo());
        due("round", 1, x.now(1));
        due("next", 0, x.now(3));
        due("points", 0, x.points(1));
        due("undo", false, x.undo());
        check.about("17 forty at most");
        for (int n = 0; n < 41; n++) {
            x.pause(1);
        }
        due("undoable", 40, x.count(9));
        for (int n = 0; n < 40; n++) {
            due("undo", true, x.undo());
        }
        due("undo", false, x.undo());
        due("second", 1, x.now(0));
        due("undoable", 0, x.count(9));
    }

    /** 18, 22, 23 */
    private void wouldBe() {
        begin("18 attempt", HILL);
        due("LENGTH", 925, x.attempt(0, 5, -3, 0));
        due("POINTS", 1015, x.attempt(0, 5, -3, 1));
        due("STYLE", 378, x.attempt(0, 5, -3, 2));
        due("late 9", 944 - 81, x.attempt(0, 0, 9, 0));
        due("late 10", NO, x.attempt(0, 0, 10, 0));
        due("late -10", NO, x.attempt(0, 0, -10, 0));
        due("n -1", NO, x.attempt(0, -1, 0, 0));
        due("n 1000", NO, x.attempt(0, 1000, 0, 0));
        due("n 999", 900 - 198, x.attempt(0, 999, 0, 0));
        due("what 3", NO, x.attempt(0, 0, 0, 3));
        due("what -1", NO, x.attempt(0, 0, 0, -1));
        due("man 3", NO, x.attempt(3, 0, 0, 0));
        due("man -1", NO, x.attempt(-1, 0, 0, 0));
        due("nothing happens", 0, x.now(0) + x.now(4) + x.count(9));
        check.about("22 gain");
        due("gain(0)", 70, x.gain(0));
        due("gain(3)", NO, x.gain(3));
        due("gain(-1)", NO, x.gain(-1));
        check.about("23 number");
        due("number(0)", 16, x.number(0));
        due("number(3)", NO, x.number(3));
        due("number(-1)", NO, x.number(-1));
        x.start(1);
        x.gate(21);
        check.about("18 as many having started, at the gate that is");
        due("LENGTH", 944 - 20 + 10 - 4, x.attempt(0, 0, 0, 0));
        check.about("23 number");
        due("number(1)", 16, x.number(1));
        x.pause(8);
        check.about("22 gain with no wind at MEAN 0");
        due("MEAN", 0, x.now(5));
        due("gain(0): TRUE 4, LENGTH 8 more", 16, x.gain(0));
    }

    /** 19 */
    private void bestWait() {
        begin("19 wait", HILL);
        due("longest behind", 0, x.wait(0, 0));
        due("LENGTH", 944, x.wait(0, 1));
        due("most points behind", 0, x.wait(0, 2));
        due("POINTS", 1036, x.wait(0, 3));
        due("what 4", -1, x.wait(0, 4));
        due("what -1", -1, x.wait(0, -1));
        due("man 3", -1, x.wait(3, 0));
        due("man -1", -1, x.wait(-1, 0));
        begin("19 points against length", HILL + "gives = 0 - gust * 10;");
        due("longest behind", 0, x.wait(0, 0));
        due("most points behind", 2, x.wait(0, 2));
        due("POINTS", 600 + 80 + 366 - 160, x.wait(0, 3));
        begin("19 of alike ones the first", "wind = if at < 1 then 0 else 5; man ann 50 200 0 0;");
        due("longest behind", 1, x.wait(0, 0));
        due("LENGTH", 910, x.wait(0, 1));
        due("most points behind", 1, x.wait(0, 2));
        due("POINTS", 620, x.wait(0, 3));
    }

    /** 20, 21 */
    private void costs() {
        begin("20 cost", HILL);
        due("cost(0, 3, false)", 9, x.cost(0, 3, false));
        due("cost(0, 3, true)", 30, x.cost(0, 3, true));
        due("cost(0, -3, true)", 6, x.cost(0, -3, true));
        due("cost(0, 0, true)", 0, x.cost(0, 0, true));
        due("cost(0, 9, false)", 81, x.cost(0, 9, false));
        due("cost(0, 10, true)", NO, x.cost(0, 10, true));
        due("cost(0, -10, true)", NO, x.cost(0, -10, true));
        due("cost(3, 0, true)", NO, x.cost(3, 0, true));
        due("cost(-1, 0, true)", NO, x.cost(-1, 0, true));
        begin("20 cost below 0: more", "far = 900 - late; man ann 50 200 0 0;");
        due("cost(0, -9, false)", -9, x.cost(0, -9, false));
        due("cost(0, -9, true)", -18, x.cost(0, -9, true));
        begin("21 pound", HILL);
        due("pound(0, 0, 0)", 0, x.pound(0, 0, 0));
        due("pound(0, 10, 0)", 1, x.pound(0, 10, 0));
        due("pound(0, 0, 60)", -2, x.pound(0, 0, 60));
        due("pound(0, 30, 60)", 1, x.pound(0, 30, 60));
        due("pound(0, 31, 0)", NO, x.pound(0, 31, 0));
        due("pound(0, 0, 61)", NO, x.pound(0, 0, 61));
        due("pound(0, -1, 0)", NO, x.pound(0, -1, 0));
        due("pound(0, 0, -1)", NO, x.pound(0, 0, -1));
        due("pound(3, 0, 0)", NO, x.pound(3, 0, 0));
        due("pound(-1, 0, 0)", NO, x.pound(-1, 0, 0));
        begin("20 to 23, 29 in the wind that blows now", "wind = if at < 5 then 1 else 10; parts 1 0 0 0 0; snow 1; gives = 0 - gust;"
            + "far = 900 + gust * (100 - weight) - gust * white + gust * late; man a 90 200 0 0; man b 90 200 0 0;");
        x.attempt(0, 9, 0, 0);
        due("pound(0, 10, 0)", 10, x.pound(0, 10, 0));
        x.attempt(0, 9, 0, 0);
        due("number(0)", 2, x.number(0));
        x.attempt(0, 9, 0, 0);
        due("cost(0, -1, false)", 1, x.cost(0, -1, false));
        x.attempt(0, 9, 0, 0);
        due("atGate(0, 20, false)", 910, x.atGate(0, 20, false));
        x.attempt(0, 9, 0, 0);
        due("gates(1)", 1820, x.gates(1));
    }

    /** 24 */
    private void gatesAndSafe() {
        begin("24 gates", HILL);
        due("gate", 25, x.gates(0));
        due("together", 994 + 993 + 991, x.gates(1));
        due("gates(2)", -1, x.gates(2));
        due("gates(-1)", -1, x.gates(-1));
        x.start(1);
        due("with snow and less wind: 924 - 4", 28, x.gates(0));
        due("the GATE stays", 20, x.now(2));
        begin("24 all seconds to 9 more", "wind = at; parts 1 0 0 0 3; far = 900 + gust * 10 + bar * 10; man a 50 200 0 0;");
        due("gate", 18, x.gates(0));
        due("together, let go now", 900 + 30 - 20, x.gates(1));
        begin("24 none", "hill 900 100 20; man a 50 200 0 0;");
        due("gate", -2, x.gates(0));
        due("together", -2, x.gates(1));
        begin("24 SAFE is not beyond SAFE", "hill 900 900 20; man a 50 200 0 0;");
        due("gate", 20, x.gates(0));
        begin("24 all are safe", "hill 900 1000 20; man a 50 200 0 0;");
        due("gate", 40, x.gates(0));
        due("together", 1000, x.gates(1));
    }

    /** 25, 31 */
    private void crowns() {
        String two = "man a 50 200 9 0; man b 50 200 9 0; far = 900 + late * 10; waits 0 10; second 1; seed 5;";
        begin("25 crown", two);
        int[] second = {0, 1, 2, 2, 2, 2, 3, 4, 5, 6};
        for (int s = 1; s <= 10; s++) {
            due("crown(1, " + s + ")", second[s - 1], x.crown(1, s));
            due("crown(0, " + s + ")", s - second[s - 1], x.crown(0, s));
        }
        due("crown(0, 0)", -1, x.crown(0, 0));
        due("crown(0, 11)", -1, x.crown(0, 11));
        due("crown(2, 1)", -1, x.crown(2, 1));
        due("crown(-1, 1)", -1, x.crown(-1, 1));
        due("nothing happens", 0, x.now(0) + x.now(4) + x.count(9));
        check.about("25 from now on: the seed of the text stays that of what goes on");
        x.start(1);
        due("a's LENGTH", 900 + 10 * x.jump(0, 1, 3), x.jump(0, 1, 0));
        due("crown(0, 10) + crown(1, 10)", 10, x.crown(0, 10) + x.crown(1, 10));
        begin("31 reversed", HILL);
        x.start(2);
        x.gate(35);
        due("reversed(0)", 2, x.reversed(0));
        due("reversed(1)", 0, x.reversed(1));
        due("reversed(2)", 1, x.reversed(2));
        due("reversed(3)", -1, x.reversed(3));
        due("reversed(-1)", -1, x.reversed(-1));
        due("nothing happens", 20 + 35, x.now(0) + x.now(2));
        due("nothing happens", 944, x.jump(0, 1, 0));
    }

    /** 26: POINTS of all are marked by the others. */
    private void withoutJudge() {
        begin("26 without", "style = 150 + home * 20; far = 900; second 1; man a 50 200 0 1; man b 50 200 0 2;"
            + "judge x 0 1; judge y 0 2; judge z 0 2;");
        x.letGo(0);
        x.letGo(0);
        due("rank(0)", 1, x.rank(0));
        due("points", 750, x.points(0));
        due("without(0, 0)", 1, x.without(0, 0));
        due("without(1, 0)", 0, x.without(1, 0));
        due("without(0, 1)", 0, x.without(0, 1));
        due("without(1, 1)", 1, x.without(1, 1));
        due("without(0, 3)", -1, x.without(0, 3));
        due("without(0, -1)", -1, x.without(0, -1));
        due("without(2, 0)", -1, x.without(2, 0));
        due("without(-1, 0)", -1, x.without(-1, 0));
        begin("26 what GIVES told, the GATE and 0 at least stay", "wind = 10; gives = gust * 9; gate 20 50; man a 50 200 0 0;"
            + "man b 50 200 0 0; judge x 0 0; style = 10; far = 900; second 1;");
        x.gate(38);
        x.letGo(0);
        due("POINTS: 600 + 10 + 90 - 900", 0, x.points(0));
        x.gate(22);
        x.letGo(0);
        due("POINTS: 600 + 10 + 90 - 100", 600, x.points(1));
        due("without(1, 0)", 0, x.without(1, 0));
        due("nothing happens", 600, x.points(1));
    }

    /** 27 */
    private void needs() {
        begin("27 needs", HILL);
        due("needs(0)", 0, x.needs(0));
        due("needs(1): 1 at least", 419, x.needs(1));
        due("needs(3)", -1, x.needs(3));
        due("needs(-1)", -1, x.needs(-1));
        x.start(2);
        due("needs(0): none left", -1, x.needs(0));
        due("needs(2)", 937, x.needs(2));
        x.gate(18);
        due("needs(2) at a lower gate", 907, x.needs(2));
        x.gate(20);
        x.start(1);
        due("needs(2): not in round 2", -1, x.needs(2));
        due("needs(1): 1037 - 994 of 964 + ..", 440, x.needs(1));
        due("needs(0): 994 - 1036", 0, x.needs(0));
        begin("27 by none", "hill 900 1000 0; man a 50 200 0 0; man b 50 200 0 0;");
        due("needs(0)", 0, x.needs(0));
        due("needs(1)", 0, x.needs(1));
        x.letGo(0);
        due("needs(1)", -2, x.needs(1));
        begin("27 alike is enough for the lower number", "goes = 1; man a 50 200 0 0; man b 50 200 0 0; style = length - 800; judge x 0 0;");
        x.start(2);
        due("next", 1, x.now(3));
        due("needs(1): 701 in all, of 700", 601, x.needs(1));
        due("needs(0): 700 in all, of 700", 0, x.needs(0));
        x.start(1);
        due("needs(0): 1400 in all, of 700", 900, x.needs(0));
        begin("27 9999 at most", "hill 900 1000 0; man a 50 200 0 0; man b 50 200 0 0; style = length - 9900; judge x 0 0;"
            + "far = 9998;");
        x.start(1);
        due("needs(1): 600 + L - 9900 above 698", 9999, x.needs(1));
        x.undo();
        x.gate(0);
        x.start(1);
        due("needs(1): at the same gate", 9999, x.needs(1));
        x.gate(1);
        due("needs(1): 50 POINTS less", -2, x.needs(1));
        begin("27 the least, though STYLE falls with it", "man a 50 200 0 0; man b 50 200 0 0; judge x 0 0;"
            + "style = if length < 850 then 200 else 0; far = 820;");
        x.start(1);
        due("POINTS", 640, x.points(0));
        due("needs(1): 800 + 2 * (L - 900) above 640", 821, x.needs(1));
    }

    /** 28, 29 */
    private void spreadAndGate() {
        begin("28 spread", HILL);
        due("spread(0)", 4, x.spread(0));
        due("spread(3)", -1, x.spread(3));
        due("spread(-1)", -1, x.spread(-1));
        begin("28 spread with no waiting", HILL + "waits 0 1;");
        due("spread(0)", 0, x.spread(0));
        begin("29 atGate", HILL);
        due("atGate(0, 22, false)", 964, x.atGate(0, 22, false));
        due("atGate(0, 22, true)", 1016, x.atGate(0, 22, true));
        due("atGate(0, 18, true)", 1056, x.atGate(0, 18, true));
        due("atGate(0, 0, false)", 744, x.atGate(0, 0, false));
        due("atGate(0, 40, false)", 1144, x.atGate(0, 40, false));
        due("atGate(0, 41, false)", NO, x.atGate(0, 41, false));
        due("atGate(0, -1, false)", NO, x.atGate(0, -1, false));
        due("atGate(3, 0, true)", NO, x.atGate(3, 0, true));
        due("atGate(-1, 0, true)", NO, x.atGate(-1, 0, true));
        due("the GATE stays", 20, x.now(2));
    }

    /** 11, 12, 30: alike ones, and one alone. */
    private void ranks() {
        begin("11 of alike ones by numbers", "man a 50 200 0 0; man b 50 200 0 0; man c 90 200 0 0; far = 900 + weight;");
        x.start(3);
        due("rank(2)", 0, x.rank(2));
        due("rank(0)", 1, x.rank(0));
        due("rank(1)", 2, x.rank(1));
        due("ranked(0)", 2, x.ranked(0));
        due("ranked(1)", 0, x.ranked(1));
        due("the worst first", 1, x.now(3));
        due("lead(2)", 80, x.lead(2));
        due("lead(0)", -80, x.lead(0));
        begin("30 without others all he has", "man a 50 200 0 0;");
        x.start(1);
        due("lead(0)", 600, x.lead(0));
    }

    /** 32, 33 */
    private void harshAndCalm() {
        begin("32 harsh: of alike ones the first", "judge x 1 0; judge y 1 0; man a 50 200 0 0;");
        due("none yet", 0, x.harsh(true, 0));
        due("none yet", 0, x.harsh(false, 1));
        x.start(1);
        due("harsh(true, 0)", 0, x.harsh(true, 0));
        due("harsh(false, 0)", 0, x.harsh(false, 0));
        due("harsh(false, 1)", 170, x.harsh(false, 1));
        begin("32 no judges", "man a 50 200 0 0;");
        due("harsh(false, 1)", -2, x.harsh(false, 1));
        due("harsh(false, 2)", -1, x.harsh(false, 2));
        begin("33 calm", HILL);
        due("calm(0, 0)", 0, x.calm(0, 0));
        due("calm(0, 1)", 18, x.calm(0, 1));
        due("calm(5, 0)", 5, x.calm(5, 0));
        due("calm(5, 1)", 13, x.calm(5, 1));
        due("calm(999, 0)", 18, x.calm(999, 0));
        due("calm(999, 1)", 0, x.calm(999, 1));
        due("calm(1000, 0)", NO, x.calm(1000, 0));
        due("calm(-1, 0)", NO, x.calm(-1, 0));
        due("calm(0, 2)", NO, x.calm(0, 2));
        due("calm(0, -1)", NO, x.calm(0, -1));
        begin("33 below 0 is as near as above", "wind = 7 - at * 10 / 2;");
        due("MEAN at 0", -3, x.now(5));
        due("calm(9, 0)", 0, x.calm(9, 0));
        due("calm(9, 1)", -3, x.calm(9, 1));
    }

    /** 36 */
    private void himself() {
        begin("36 himself: nobody", "man ann 50 200 0 0;");
        due("himself(0)", -2, x.himself(0));
        due("himself(1)", -2, x.himself(1));
        due("himself(2)", -2, x.himself(2));
        due("himself(3)", NO, x.himself(3));
        due("himself(-1)", NO, x.himself(-1));
        begin("36 himself", "seed 77; waits 9 10; man ann 50 200 9 0; man bob 50 200 4 0; far = 900 + late - white; snow 3;");
        x.start(1);
        x.gate(30);
        due("himself(0)", 0, x.himself(0));
        due("himself(1)", -8, x.himself(1));
        x.start(1);
        due("himself(0)", 1, x.himself(0));
        due("himself(1)", 1, x.himself(1));
        due("himself(2)", 1, x.himself(2));
        x.start(2);
        due("himself(0): bob, for the higher GATE the worst of round 1", 1, x.himself(0));
        due("himself(1)", 3, x.himself(1));
        due("himself(2)", 2, x.himself(2));
        begin("36 of alike ones the first man, then the first round", HILL);
        x.start(5);
        due("himself(0)", 0, x.himself(0));
        due("himself(1)", 0, x.himself(1));
        due("himself(2)", 1, x.himself(2));
        check.about("36 at the same gate");
        x.undo();
        x.gate(10);
        x.letGo(0);
        x.gate(20);
        due("himself(1)", 0, x.himself(1));
    }

    /** 37 to 39 */
    private void told() {
        begin("39 slips", HILL);
        x.start(1);
        x.gate(5);
        check.about("37 tell");
        due("tell", 0, x.tell(0, 5, 925));
        due("tell", 1, x.tell(0, 0, 935));
        due("tell", 2, x.tell(0, 0, 944));
        due("tell", 3, x.tell(1, 9999, 0));
        due("man 3", -1, x.tell(3, 0, 0));
        due("man -1", -1, x.tell(-1, 0, 0));
        due("second -1", -1, x.tell(0, -1, 0));
        due("second 10000", -1, x.tell(0, 10000, 0));
        due("length -1", -1, x.tell(0, 0, -1));
        due("length 10000", -1, x.tell(0, 0, 10000));
        due("undoable", 2, x.count(9));
        check.about("39 slips");
        due("slips(0, 0, -1)", 19, x.slips(0, 0, -1));
        due("slips(0, 0, 0)", 0, x.slips(0, 0, 0));
        due("slips(0, 0, 18)", 18, x.slips(0, 0, 18));
        due("slips(0, 0, 19)", -1, x.slips(0, 0, 19));
        due("slips(0, 1, -1)", 2, x.slips(0, 1, -1));
        due("slips(0, 1, 0)", 6, x.slips(0, 1, 0));
        due("slips(0, 1, 1)", 12, x.slips(0, 1, 1));
        due("slips(0, 1, 2)", -1, x.slips(0, 1, 2));
        due("slips(0, 2, -1)", 2, x.slips(0, 2, -1));
        due("slips(0, 3, -1)", 0, x.slips(0, 3, -1));
        due("slips(0, 3, 0)", -1, x.slips(0, 3, 0));
        due("slips(1, 3, -1)", 19, x.slips(1, 3, -1));
        due("slips(1, 4, -1): 900 + 2 * -99 is not 0", 0, x.slips(1, 4, -1));
        due("slips(2, 4, -1)", 19, x.slips(2, 4, -1));
        due("slips(0, 5, -1)", -1, x.slips(0, 5, -1));
        due("slips(0, -1, -1)", -1, x.slips(0, -1, -1));
        due("slips(0, 1, -2)", -1, x.slips(0, 1, -2));
        due("slips(3, 1, -1)", -1, x.slips(3, 1, -1));
        due("slips(-1, 1, -1)", -1, x.slips(-1, 1, -1));
        check.about("37 twenty at most");
        for (int n = 4; n < 20; n++) {
            due("tell", n, x.tell(2, 9999, 9999));
        }
        due("tell", -1, x.tell(2, 0, 0));
        due("count(10)", 20, x.count(10));
        check.about("38 forget");
        due("forget", 20, x.forget());
        due("forget", 0, x.forget());
        due("slips(0, 0, -1)", 19, x.slips(0, 0, -1));
        due("slips(0, 1, -1)", -1, x.slips(0, 1, -1));
        due("tell", 0, x.tell(2, 0, 0));
    }

    /** 40, 41 */
    private void slots() {
        begin("40 hold", HILL);
        due("restore(0): nothing is held", false, x.restore(0));
        x.start(1);
        x.tell(0, 0, 944);
        due("hold(0)", true, x.hold(0));
        due("hold(3)", false, x.hold(3));
        due("hold(-1)", false, x.hold(-1));
        due("count(11)", 1, x.count(11));
        due("undoable", 1, x.count(9));
        x.start(4);
        x.gate(7);
        x.pause(9);
        x.hold(2);
        due("count(11)", 2, x.count(11));
        x.tell(1, 0, 944);
        check.about("41 restore");
        due("restore(1)", false, x.restore(1));
        due("restore(3)", false, x.restore(3));
        due("restore(-1)", false, x.restore(-1));
        due("undoable", 4, x.count(9));
        due("restore(0)", true, x.restore(0));
        due("undoable", 0, x.count(9));
        due("undo", false, x.undo());
        due("second", 10, x.now(0));
        due("round", 1, x.now(1));
        due("gate", 20, x.now(2));
        due("next", 1, x.now(3));
        due("started", 1, x.now(4));
        due("told stays", 2, x.count(10));
        due("points", 1036, x.points(0));
        due("jump", NO, x.jump(1, 1, 0));
        x.gate(9);
        due("restore(0) again", true, x.restore(0));
        due("gate", 20, x.now(2));
        due("restore(2)", true, x.restore(2));
        due("second", 59, x.now(0));
        due("round", 3, x.now(1));
        due("points", 1944, x.points(0));
        due("hold(0) anew", true, x.hold(0));
        due("count(11)", 2, x.count(11));
        due("restore(0)", true, x.restore(0));
        due("round", 3, x.now(1));
    }

    /** 42 */
    private void counts() {
        begin("42 count", HILL + "hill 800 930 7; waits 3 4;");
        int[] due = {3, 4, 800, 930, 7, 3, 2, 0, 0, 0, 0, 0, 0};
        for (int what = 0; what <= 12; what++) {
            due("count(" + what + ")", due[what], x.count(what));
        }
        due("count(-1)", -1, x.count(-1));
        due("count(13)", -1, x.count(13));
        x.start(16);
        x.feed(0, 0, 0, 0, 0);
        x.tell(0, 0, 0);
        x.hold(1);
        int[] then = {3, 4, 800, 930, 7, 3, 2, 2, 20, 1, 1, 1, 944};
        for (int what = 0; what <= 12; what++) {
            due("count(" + what + ")", then[what], x.count(what));
        }
        begin("42 beyond SAFE", "hill 900 900 20; man a 50 200 0 0; man b 50 200 0 0;");
        x.start(2);
        due("900 is not", 0, x.count(7));
        x.gate(21);
        x.start(2);
        due("905 is, in round 2 too", 2, x.count(7));
        due("longest", 905, x.count(12));
    }

    /** II: which marks count, how they are held. */
    private void style() {
        String text = "man a 50 200 0 1; style = 100 + lean * 20;";
        String[] judges = {"", "judge jb 1 0;", "judge jc - 1 0;", "judge jd 3 0;", "judge je 3 0;", "judge jf - 4 0;"};
        int[] styles = {0, 120, 120 + 80, 120, 120 + 160, 80 + 120 + 160};
        for (int n = 0; n <= 5; n++) {
            text += judges[n];
            begin("8 style of " + n + " judges", text);
            due("STYLE", styles[n], x.attempt(0, 0, 0, 2));
        }
        begin("8 marks are held", "man a 50 200 0 1; style = lean * 100; judge b - 1 0; judge c 3 0;");
        x.start(1);
        due("mark", 0, x.mark(0, 1, 0));
        due("mark", 200, x.mark(0, 1, 1));
        begin("8 what STYLE looks at", "man a 50 200 0 1; judge b 2 1; wind = at; parts 1 0 0 0 0; hill 900 1000 0; far = 1000;"
            + "style = length / 10 + late * 3 + gust + lean + home * 10 + at + section + weight + ski + white + bar;");
        due("STYLE", 100 - 6 + 7 + 2 + 10, x.attempt(0, 7, -2, 2));
        begin("8 GIVES is held", "man a 50 200 0 1; wind = 10; gives = gust * 1000; far = 900;");
        due("POINTS", 1599, x.attempt(0, 0, 0, 1));
        begin("8 LENGTH is held", "man a 50 200 0 1; far = 9999 + late; hill 900 1000 0;");
        due("LENGTH", 9999, x.attempt(0, 0, 9, 0));
        begin("8 METRE by 10 towards 0", "man a 50 200 0 1; far = 899; hill 900 1000 15;");
        due("POINTS", 599, x.attempt(0, 0, 0, 1));
    }

    private void dueLaw(int want, String law) {
        begin("II " + law, "man a 50 200 0 0; snow 7; far = " + law + ";");
        due("LENGTH", want, x.attempt(0, 0, 2, 0));
    }

    /** II: how a LAW is told. */
    private void laws() {
        dueLaw(7, "1 + 2 * 3");
        dueLaw(9, "(1 + 2) * 3");
        dueLaw(5, "10 - 3 - 2");
        dueLaw(2, "20 / 3 / 3");
        dueLaw(18, "20 / 3 * 3");
        dueLaw(7, "10 + (0 - 7) / 2");
        dueLaw(0, "5 / 0 + 9");
        dueLaw(0, "9 + 5 * 0 / (late - 2)");
        dueLaw(4, "if 1 < 2 then 4 else 5 / 0");
        dueLaw(5, "if 2 < 2 then 4 / 0 else 5");
        dueLaw(0, "if 1 / 0 < 2 then 4 else 5");
        dueLaw(0, "if 1 < 2 / 0 then 4 else 5");
        dueLaw(3, "if 1 < 0 then 1 else if 2 < 1 then 2 else if 1 < 2 then 3 else if 1 / 0 < 2 then 4 else 5");
        dueLaw(5, "if 1 < 0 then 1 else if 2 < 1 then 2 else if 2 < 1 then 3 else if 2 < 2 then 4 else 5");
        dueLaw(250, "weight + ski");
        dueLaw(2, "late + at + section + length + lean + home + gust + bar + white");
        dueLaw(9999, "9999 * 9999 * 21");
        dueLaw(0, "9999 * 9999 * 22");
        dueLaw(9999, "0 - 9999 * 9999 * 22");
        dueLaw(0, "8192 * 8192 * 32 / (0 - 1)");
        dueLaw(9999, "0 - 1 - 8192 * 8192 * 32 / (0 - 1)");
        dueLaw(36, "((((((6)))))) * ((((((6))))))");
        dueLaw(42, "42");
        begin("II the last one", "far = 1; far = 2; man a 50 200 0 0; snow 3; snow 4;");
        due("LENGTH", 2, x.attempt(0, 0, 0, 0));
        begin("II FAR if not told: the last K", "hill 800 900 1; man a 50 200 0 0; wind = 5; hill 700 900 1; gate 10 1;");
        due("LENGTH", 710, x.attempt(0, 0, 0, 0));
        due("LENGTH at 12", 720, x.atGate(0, 12, false));
        begin("II WIND looks at the second and the section alone",
            "wind = at * 10 + section + gust + weight + ski + late + white + bar + length + lean + home;");
        due("wind(3, 4)", 43, x.wind(3, 4));
        begin("II GIVES looks at MEAN wind alone", "parts 0 0 0 0 0; wind = 3; man a 50 200 0 0; hill 900 1000 0;"
            + "gives = gust + at + section + weight + ski + late + white + bar + length + lean + home;");
        due("POINTS", 603, x.attempt(0, 0, 5, 1));
    }
}
