import java.util.Arrays;

/** Terms II, sentence by sentence: wind, LENGTH, STYLE, POINTS, LAWS, GOES, STARTS, rounds, RANK and LOT at their edges. */
public final class JumpEdgeTest {
    private static final String ANN = "man ann 50 200 0 0;";
    private static final String MIN = "8192 * 8192 * 32";
    private static final String MAX = "(8192 * 8192 * 32 - 1)";

    private final Check check = new Check();

    public static void main(String[] args) {
        JumpEdgeTest test = new JumpEdgeTest();
        test.lots();
        test.windIsHeld();
        test.sections();
        test.rounding();
        test.lengthIsHeld();
        test.marks();
        test.metres();
        test.pointsAreHeld();
        test.varsOfLaws();
        test.wrapping();
        test.divisions();
        test.joining();
        test.branches();
        test.goes();
        test.waits();
        test.lates();
        test.secondRound();
        test.roundsOneByOne();
        test.ranks();
        test.byHand();
        test.check.end("JumpEdgeTest");
    }

    private void due(String call, long want, long got) {
        check.due(call, want, got);
    }

    /** A number of either sign as a LAW has it. */
    private static String number(int n) {
        return n < 0 ? "0 - " + -n : "" + n;
    }

    private static int held(int value, int low, int high) {
        return value < low ? low : value > high ? high : value;
    }

    private void lots() {
        check.about("II: a GUST: LOT (2 * GUSTS + 1) of the SEED and 8 * the second and the SECTION, less GUSTS");
        for (int gusts : new int[] {0, 1, 2, 15, 29, 30}) {
            for (int seed : new int[] {0, 1, 4711, 9998, 9999}) {
                WindJump x = Check.told("gusts " + gusts + "; seed " + seed + ";");
                for (int second : new int[] {0, 1, 2, 50, 12500, 54321, 99998, 99999}) {
                    for (int section = 0; section < 5; section++) {
                        due("wind(" + section + ", " + second + ")",
                            Lot.of(2 * gusts + 1, seed, 8 * second + section) - gusts, x.wind(section, second));
                    }
                }
            }
        }
        check.about("II: LOT of each second and SECTION there is");
        WindJump all = null;
        for (int which = 0; which < 8 * 100000; which++) {
            if (which % 800 == 0) {
                all = Check.told("gusts 30; seed 2718;");
            }
            if (which % 8 < 5) {
                due("wind of " + which, Lot.of(61, 2718, which) - 30, all.wind(which % 8, which / 8));
            }
        }
        check.about("II: LOT by hand: 61 of 0 and 0, of 0 and 9");
        due("61 of 0 and 0", 6, Lot.of(61, 0, 0));
        due("wind(0, 0)", -24, Check.told("gusts 30;").wind(0, 0));
        check.about("II: each GUST of -1 .. 1 is blown");
        WindJump x = Check.told("gusts 1;");
        int[] seen = new int[3];
        for (int second = 0; second < 300; second++) {
            seen[held(x.wind(0, second), -1, 1) + 1]++;
        }
        due("all of them", 1, seen[0] > 50 && seen[1] > 50 && seen[2] > 50 ? 1 : 0);
    }

    private void windIsHeld() {
        int gust = Lot.of(61, 7, 8 * 3 + 2) - 30;
        for (int law : new int[] {-9999, -101, -100, -99, -98, -1, 0, 1, 98, 99, 100, 101, 9999}) {
            check.about("II: what the LAW tells, held to -99 .. 99, and a GUST: " + law);
            String wind = "wind = " + number(law) + ";";
            due("without GUSTS", held(law, -99, 99), Check.told(wind).wind(2, 3));
            due("with GUSTS", held(law, -99, 99) + gust, Check.told(wind + "gusts 30; seed 7;").wind(2, 3));
            WindJump x = Check.told(wind);
            due("MEAN", held(law, -99, 99), x.now(5));
            due("TRUE", held(law, -99, 99), x.now(6));
        }
    }

    private void sections() {
        check.about("II: A JUMP let go in second t meets SECTION k in second t + k");
        for (int k = 0; k < 5; k++) {
            String parts = "parts 0 0 0 0 0;".replaceFirst("^(parts" + " 0".repeat(k) + ") 0", "$1 3");
            WindJump x = Check.told("wind = at * 7 + section;" + parts);
            for (int t = 0; t < 9; t++) {
                due("TRUE in " + t + " of SECTION " + k, held((t + k) * 7 + k, -99, 99), x.now(6));
                int sum = 0;
                for (int section = 0; section < 5; section++) {
                    sum += held((t + section) * 7 + section, -99, 99);
                }
                due("MEAN in " + t, sum / 5, x.now(5));
                x.pause(1);
            }
        }
        check.about("II: at: the second, far beyond 99999");
        WindJump x = Check.told("wind = (at - at / 50 * 50) * 2; parts 1 0 0 0 0;");
        for (int n = 1; n <= 120; n++) {
            x.pause(999);
        }
        due("second", 119880, x.now(0));
        due("TRUE", 119880 % 50 * 2, x.now(6));
    }

    private void rounding() {
        for (int wind = -26; wind <= 26; wind++) {
            check.about("II: both rounded towards 0: " + wind + " in one SECTION");
            String law = "wind = if section < 1 then " + number(wind) + " else 0;";
            int towards0 = wind < 0 ? -(-wind / 5) : wind / 5;
            WindJump x = Check.told(law);
            due("MEAN", towards0, x.now(5));
            due("TRUE, each PART 1 if not told", towards0, x.now(6));
            int sevenths = wind < 0 ? -(-wind * 3 / 7) : wind * 3 / 7;
            due("TRUE by 7", sevenths, Check.told(law + "parts 3 1 1 1 1;").now(6));
            WindJump none = Check.told(law + "parts 0 0 0 0 0;");
            due("TRUE, the sum of PARTS is 0", 0, none.now(6));
            due("MEAN then", towards0, none.now(5));
            due("TRUE of the others' PARTS", 0, Check.told(law + "parts 0 9 9 9 9;").now(6));
            due("TRUE of his PART alone", wind, Check.told(law + "parts 9 0 0 0 0;").now(6));
        }
    }

    private void lengthIsHeld() {
        String[] laws = {"0 - 9999", "0 - 1", "0", "1", "9998", "9999", "9999 + 1", "9999 * 9999", MIN, MAX};
        int[] lengths = {0, 0, 0, 1, 9998, 9999, 9999, 9999, 0, 9999};
        for (int i = 0; i < laws.length; i++) {
            check.about("II: LENGTH held to 0 .. 9999: " + laws[i]);
            WindJump x = Check.told(ANN + "far = " + laws[i] + ";");
            due("attempt", lengths[i], x.attempt(0, 0, 0, 0));
            due("letGo", lengths[i], x.letGo(0));
            due("jump", lengths[i], x.jump(0, 1, 0));
        }
        check.about("II: late (how late he takes off, below 0: too soon)");
        WindJump x = Check.told(ANN + "far = 500 + late;");
        for (int late = -9; late <= 9; late++) {
            due("so LATE", 500 + late, x.attempt(0, 0, late, 0));
        }
        check.about("II: white (SNOW times how many have started ahead in this round)");
        x = Check.told("snow 99; far = white; waits 0 1;" + people(8, 0));
        for (int round = 1; round <= 2; round++) {
            for (int ahead = 0; ahead < 8; ahead++) {
                due("LENGTH", 99 * ahead, x.letGo(0));
            }
        }
        check.about("II: bar (the GATE, less the one told in the text)");
        x = Check.told(ANN + "gate 9 50; far = 100 + bar;");
        for (int gate = 0; gate <= 40; gate++) {
            due("LENGTH", 100 + gate - 9, x.atGate(0, gate, false));
        }
    }

    /** So many MEN (of weights from 50 on) and JUDGES, alike but for that. */
    private static String people(int men, int judges) {
        StringBuilder out = new StringBuilder();
        for (int i = 0; i < men; i++) {
            out.append("man m").append((char) ('a' + i)).append(' ').append(50 + i).append(" 200 0 0;");
        }
        for (int i = 0; i < judges; i++) {
            out.append("judge j").append((char) ('a' + i)).append(" 0 0;");
        }
        return out.toString();
    }

    private void marks() {
        int[] marks = {-9999, -1, 0, 1, 199, 200, 201, 9999};
        for (int mark : marks) {
            check.about("II: STYLE held to 0 .. 200: " + mark);
            WindJump x = Check.told(ANN + "judge j 0 0; style = " + number(mark) + ";");
            due("STYLE", held(mark, 0, 200), x.attempt(0, 0, 0, 2));
            x.letGo(0);
            due("mark", held(mark, 0, 200), x.mark(0, 1, 0));
        }
        int[][] leans = {{}, {4}, {4, -3}, {4, -3, 2}, {4, 4, 4}, {4, 4, 1}, {1, 4, 4}, {1, 1, 4}, {4, 1, 1}, {-9, 9, 0, 5},
            {9, -9, 9, -9}, {1, 2, 3, 4, 5}, {5, 4, 3, 2, 1, 0}, {0, 0, 0, 0, 0, 0, 9}, {-9, 3, 9, 9, -9, -1, 2}};
        for (int[] lean : leans) {
            check.about("II: of three JUDGES or more the highest one and the lowest one do not count: " + Arrays.toString(lean));
            StringBuilder text = new StringBuilder(ANN + "style = 100 + lean * 10;");
            int[] sorted = new int[lean.length];
            for (int i = 0; i < lean.length; i++) {
                text.append("judge j").append((char) ('a' + i)).append(lean[i] < 0 ? " -" : " ").append(Math.abs(lean[i])).append(" 0;");
                sorted[i] = 100 + 10 * lean[i];
            }
            Arrays.sort(sorted);
            int off = lean.length >= 3 ? 1 : 0;
            int sum = Arrays.stream(sorted, off, Math.max(off, lean.length - off)).sum();
            WindJump x = Check.told(text.toString());
            due("STYLE of all", sum, x.attempt(0, 0, 0, 2));
            x.letGo(0);
            due("STYLE of all", sum, x.jump(0, 1, 2));
            due("POINTS", 600 + sum, x.jump(0, 1, 1));
            for (int i = 0; i < lean.length; i++) {
                due("mark", 100 + 10 * lean[i], x.mark(0, 1, i));
            }
        }
    }

    private void metres() {
        for (int metre : new int[] {0, 1, 7, 10, 19, 99}) {
            check.about("II: METRE times (LENGTH less K) by 10 (rounded towards 0): " + metre);
            WindJump x = Check.told(ANN + "hill 900 1000 " + metre + "; far = 900 + late;");
            for (int late = -9; late <= 9; late++) {
                int points = late < 0 ? -(metre * -late / 10) : metre * late / 10;
                due("POINTS of " + late, 600 + points, x.attempt(0, 0, late, 1));
            }
        }
        check.about("II: the greatest of all");
        due("POINTS", 600 + 99 * 9899 / 10 + 5 * 200 + 999 + 40 * 99, Check.told(ANN + people(0, 7) + "hill 100 100 99;"
            + "far = 9999; style = 200; gives = 999; gate 40 99;").atGate(0, 0, true));
    }

    private void pointsAreHeld() {
        for (int gives : new int[] {-9999, -1000, -999, -998, 0, 998, 999, 1000, 9999}) {
            check.about("II: what GIVES tells, held to -999 .. 999: " + gives);
            WindJump x = Check.told(ANN + "far = 1400; gives = " + number(gives) + ";");
            due("POINTS", 1600 + held(gives, -999, 999), x.attempt(0, 0, 0, 1));
        }
        check.about("II: 0 at least");
        for (int length = 298; length <= 302; length++) {
            WindJump x = Check.told(ANN + "hill 900 1000 10; far = " + length + ";");
            due("POINTS of " + length, Math.max(0, length - 300), x.attempt(0, 0, 0, 1));
            x.letGo(0);
            due("points", Math.max(0, length - 300), x.points(0));
        }
        check.about("II: and the GATE's points for each step that the GATE is below the one of the text (above it: less)");
        WindJump x = Check.told(ANN + "far = 900; gate 20 50;");
        for (int gate = 0; gate <= 40; gate++) {
            due("POINTS", Math.max(0, 600 + 50 * (20 - gate)), x.atGate(0, gate, true));
        }
        check.about("II: 0 at least, all together");
        due("POINTS", 0, Check.told(ANN + "far = 900; gives = 0 - 601;").attempt(0, 0, 0, 1));
        due("POINTS", 0, Check.told(ANN + "far = 900; gives = 0 - 600;").attempt(0, 0, 0, 1));
        due("POINTS", 1, Check.told(ANN + "far = 900; gives = 0 - 599;").attempt(0, 0, 0, 1));
        due("POINTS", 9, Check.told(ANN + people(0, 1) + "far = 600; style = 9;").attempt(0, 0, 0, 1));
        due("POINTS", 0, Check.told(ANN + people(0, 1) + "far = 595; style = 9;").attempt(0, 0, 0, 1));
    }

    private void varsOfLaws() {
        // SECTION k blows k + 1: MEAN wind 3, TRUE wind 5; one has started ahead, the GATE is 2 above the one told.
        String scene = "snow 3; parts 0 0 0 0 1; gate 10 7; wind = section + 1; man a 50 200 0 4; man b 60 210 0 4; judge j 2 4;";
        String[] vars = {"at", "section", "gust", "weight", "ski", "late", "white", "bar", "length", "lean", "home"};
        int[] far = {0, 0, 5, 60, 210, -2, 3, 2, 0, 0, 0};
        int[] style = {0, 0, 5, 0, 0, -2, 0, 0, 50, 2, 1};
        int[] gives = {0, 0, 3, 0, 0, 0, 0, 0, 0, 0, 0};
        int[] wind = {17, 3, 0, 0, 0, 0, 0, 0, 0, 0, 0};
        for (int i = 0; i < vars.length; i++) {
            check.about("II: a VAR not told for a LAW is 0 in it: " + vars[i]);
            due("WIND", wind[i], Check.told(scene + "wind = " + vars[i] + ";").wind(3, 17));
            due("FAR", 100 + far[i], oneAhead(scene + "far = 100 + " + vars[i] + ";").attempt(1, 4, -2, 0));
            due("STYLE", 100 + style[i], oneAhead(scene + "far = 50; style = 100 + " + vars[i] + ";").attempt(1, 4, -2, 2));
            due("GIVES", 600 - 14 + gives[i], oneAhead(scene + "hill 900 900 0; style = 0; gives = " + vars[i] + ";")
                .attempt(1, 4, -2, 1));
        }
        int[] goes = {0, 0, 3, 60, 210, 0, 0, 0, 0, 0, 0};
        for (int i = 0; i < vars.length; i++) {
            check.about("II: GOES: at (seconds waited), gust (MEAN wind), weight, ski: " + vars[i]);
            String off = "(" + vars[i] + " - " + goes[i] + ")";
            WindJump x = oneAhead(scene + "waits 8 30; goes = 1 - " + off + " * " + off + ";");
            x.start(1);
            due("let go at once", 30, x.jump(1, 1, 4));
        }
        check.about("II: at (seconds waited)");
        for (int n = 0; n <= 9; n++) {
            WindJump x = oneAhead(scene + "waits 8 30; goes = 1 - (at - " + n + ") * (at - " + n + ");");
            x.start(1);
            due("let go behind " + n, 30 + Math.min(n, 8), x.jump(1, 1, 4));
        }
        check.about("II: home (1 if the LANDS are alike, else 0)");
        WindJump x = Check.told("man a 50 200 0 0; man b 50 200 0 9; judge j 0 0; judge k 0 9; style = 50 + home * 100;");
        x.start(2);
        int[][] home = {{150, 50}, {50, 150}};
        for (int man = 0; man < 2; man++) {
            due("mark", home[man][0], x.mark(man, 1, 0));
            due("mark", home[man][1], x.mark(man, 1, 1));
        }
    }

    /** Let go at 0, the second 30; the GATE 2 above the one told. */
    private static WindJump oneAhead(String text) {
        WindJump x = Check.told(text + "waits 8 30;");
        x.letGo(0);
        x.gate(12);
        return x;
    }

    /** 1 if the one is less than the other. */
    private void less(boolean want, String one, String other) {
        check.about("II: less, ints of 32 bits that wrap: " + one + " < " + other);
        due("it holds", want ? 1 : 2, Check.told(ANN + "far = if " + one + " < " + other + " then 1 else 2;").attempt(0, 0, 0, 0));
    }

    private void same(String one, String other) {
        less(false, one, other);
        less(false, other, one);
    }

    private void wrapping() {
        less(true, "1", "2");
        same("2", "2");
        less(false, "2", "1");
        less(true, "0 - 2", "0 - 1");
        less(true, MIN, "0");
        less(true, "0", MAX);
        less(true, MIN, MAX);
        less(false, MAX, MIN);
        less(true, MIN, MIN + " + 1");
        less(true, MAX + " - 1", MAX);
        same(MAX + " + 1", MIN);
        same(MIN + " - 1", MAX);
        same("0 - " + MIN, MIN);
        same(MIN + " * (0 - 1)", MIN);
        same(MIN + " / (0 - 1)", MIN);
        same(MIN + " / 1", MIN);
        same(MAX + " * 2", "0 - 2");
        same(MAX + " * " + MAX, "1");
        same(MIN + " * 2", "0");
        same("8192 * 8192 * 64", "0");
        same("9999 * 9999 * 9999", "0 - 1027 * 1000 * 1000 - 349 * 1000 - 969");
        same("8192 * 8192 * 31 + 8192 * 8192", MIN);
        same("0 - 8192 * 8192 * 31 - 8192 * 8192 - 1", MAX);
    }

    private void divisions() {
        same("7 / 2", "3");
        same("(0 - 7) / 2", "0 - 3");
        same("7 / (0 - 2)", "0 - 3");
        same("(0 - 7) / (0 - 2)", "3");
        same("(0 - 1) / 2", "0");
        same("1 / 9999", "0");
        same("0 / 5", "0");
        String[] looked = {"1 / 0", "0 / 0", "9 + 1 / 0", "1 / 0 + 9", "9 - 0 * (1 / 0)", "9 / (1 - 1)", "9 + 1 / (at * 0)",
            "(5 / ((((0)))))", "if 1 / 0 < 2 then 4 else 5", "if 1 < 2 / 0 then 4 else 5", "if 2 / 0 < 1 then 4 else 5",
            "if 1 < 2 then 4 / 0 else 5", "if 2 < 1 then 4 else 5 / 0", "if 1 < 2 then 4 + 0 / 0 else 5",
            "if 2 < 1 then 1 else if 1 / 0 < 2 then 4 else 5", "if 2 < 1 then 1 else if 1 < 2 then 4 / 0 else 5",
            "if 2 < 1 then 1 else if 2 < 1 then 2 else if 2 < 1 then 3 else if 2 < 1 then 4 else 5 / 0",
            "if 2 < 1 then 1 else if 2 < 1 then 2 else if 2 < 1 then 3 else if 2 < 1 / 0 then 4 else 5"};
        for (String law : looked) {
            check.about("II: a LAW in which something that is looked at is divided by 0 is 0: " + law);
            due("FAR", 0, Check.told(ANN + "far = " + law + ";").attempt(0, 0, 0, 0));
            due("WIND", 0, Check.told("wind = " + law + ";").wind(0, 0));
            due("STYLE", 0, Check.told(ANN + "judge j 0 0; style = " + law + ";").attempt(0, 0, 0, 2));
            due("GIVES", 600, Check.told(ANN + "far = 900; gives = " + law + ";").attempt(0, 0, 0, 1));
            WindJump x = Check.told(ANN + "goes = " + law + ";");
            x.start(1);
            due("GOES", 10, x.jump(0, 1, 4));
        }
        String[] unlooked = {"if 1 < 2 then 5 else 1 / 0", "if 2 < 1 then 1 / 0 else 5",
            "if 1 < 2 then 5 else if 1 / 0 < 1 then 6 else 7", "if 2 < 1 then 1 / 0 else if 1 < 2 then 5 else 6 / 0"};
        for (String law : unlooked) {
            check.about("II: what is not looked at does not count: " + law);
            due("FAR", 5, Check.told(ANN + "far = " + law + ";").attempt(0, 0, 0, 0));
        }
        check.about("II: each look at the LAW is a new one");
        WindJump x = Check.told(ANN + "far = 12 / late;");
        int[] lengths = {0, 12, 6, 0, 4};
        int[] lates = {0, 1, 2, 0, 3};
        for (int i = 0; i < lates.length; i++) {
            due("so LATE " + lates[i], lengths[i], x.attempt(0, 0, lates[i], 0));
        }
        due("a broken WIND and its GUST", Lot.of(61, 0, 0) - 30, Check.told("wind = 5 / 0; gusts 30;").wind(0, 0));
    }

    private void joining() {
        same("2 + 3 * 4", "14");
        same("2 * 3 + 4", "10");
        same("20 - 3 - 2", "15");
        same("20 - 3 + 2", "19");
        same("20 - (3 + 2)", "15");
        same("100 / 10 / 5", "2");
        same("100 / 10 * 5", "50");
        same("100 / (10 * 5)", "2");
        same("7 * 3 / 2", "10");
        same("7 / 2 * 3", "9");
        same("1 - 2 * 3 - 4 / 2", "0 - 7");
        same("(1 + 2) * (3 + 4)", "21");
        same("1+2*(1+2*(1+2*(1+2*(1+2*(1+2*(1+2*3))))))", "511");
        same("1-2*(1-2*(1-2*(1-2*(1-2*(1-2*(1-2*4))))))", "0 - 469");
        check.about("I: a LAW as long as a text can have");
        due("195 ones", 195, Check.told("man a 50 200 0 0;far=" + "1+".repeat(194) + "1;").attempt(0, 0, 0, 0));
        due("in (", 1 + 180, Check.told("man a 50 200 0 0;far=1+((((((" + "1*1+".repeat(90) + "90))))));").attempt(0, 0, 0, 0));
    }

    private void branches() {
        check.about("II: the E of the first if that holds (one less than the other), else the last one");
        WindJump x = Check.told(ANN + "far = if late < 0 - 3 then 10 else if late < 0 then 20 else if late < 3 then 30"
            + " else if late < 6 then 40 else 50;");
        for (int late = -9; late <= 9; late++) {
            due("so LATE " + late, late < -3 ? 10 : late < 0 ? 20 : late < 3 ? 30 : late < 6 ? 40 : 50, x.attempt(0, 0, late, 0));
        }
    }

    private void goes() {
        int[] tells = {-9999, -1, 0, 1, 9999};
        for (int tell : tells) {
            check.about("II: he is let go if it tells more than 0: " + tell);
            WindJump x = Check.told(ANN + "goes = " + number(tell) + ";");
            due("start", 1, x.start(1));
            due("behind", tell > 0 ? 0 : 10, x.jump(0, 1, 4));
        }
        check.about("II: gust (MEAN wind of a JUMP let go now)");
        for (int ahead = 0; ahead < 9; ahead++) {
            // MEAN wind is the second and 2, TRUE wind the second and 4.
            WindJump x = Check.told(ANN + "wind = at; parts 0 0 0 0 1; goes = gust - 6;");
            if (ahead > 0) {
                x.pause(ahead);
            }
            due("start", 1, x.start(1));
            due("let go in", Math.max(5, ahead), x.jump(0, 1, 4));
            due("MEAN", Math.max(5, ahead) + 2, x.jump(0, 1, 6));
        }
    }

    private void waits() {
        for (int waits : new int[] {0, 1, 2, 29, 30}) {
            check.about("II: or when he has waited WAITS: " + waits);
            for (int at = 0; at <= 31; at++) {
                WindJump x = Check.told(ANN + "waits " + waits + " 7; goes = if at < " + at + " then 0 else 1;");
                due("start", 1, x.start(1));
                due("let go behind", Math.min(at, waits), x.jump(0, 1, 4));
                due("the second", Math.min(at, waits) + 7, x.now(0));
            }
        }
        check.about("II: behind his JUMP the second is PAUSE more than that in which he was let go");
        for (int pause : new int[] {1, 2, 299, 300}) {
            WindJump x = Check.told(people(3, 0) + "waits 5 " + pause + ";");
            due("start", 1, x.start(1));
            due("second", pause, x.now(0));
            x.letGo(5);
            due("second", pause + 5 + pause, x.now(0));
            due("let go in", pause + 5, x.jump(1, 1, 4));
        }
    }

    private void lates() {
        for (int slip = 0; slip <= 9; slip++) {
            check.about("II: LATE is LOT (2 * SLIP + 1) of the SEED and 100000 + the second, less SLIP: " + slip);
            for (int seed : new int[] {0, 1, 9999}) {
                WindJump x = Check.told("man a 50 200 " + slip + " 0; man b 50 200 0 0; man c 50 200 9 0; waits 6 11; seed " + seed
                    + "; far = 500 + late; goes = at - 2; judge j 0 0; style = 100 - late * 3;");
                due("start", 2, x.start(2));
                x.letGo(6);
                int[] seconds = {3, 3 + 11 + 3, 3 + 11 + 3 + 11 + 6};
                int[] slips = {slip, 0, 9};
                for (int man = 0; man < 3; man++) {
                    int late = Lot.of(2 * slips[man] + 1, seed, 100000 + seconds[man]) - slips[man];
                    due("let go in", seconds[man], x.jump(man, 1, 4));
                    due("LATE", late, x.jump(man, 1, 3));
                    due("LENGTH", 500 + late, x.jump(man, 1, 0));
                    due("mark", 100 - 3 * late, x.mark(man, 1, 0));
                    due("STYLE", 100 - 3 * late, x.jump(man, 1, 2));
                }
            }
        }
    }

    /** How many go into round 2, in which order. */
    private void secondRound() {
        int[] order = {3, 7, 1, 0, 6, 2, 5, 4};
        for (int men = 1; men <= 8; men++) {
            StringBuilder text = new StringBuilder("far = 800 + weight; waits 3 20;");
            for (int man = 0; man < men; man++) {
                text.append("man m").append((char) ('a' + man)).append(' ').append(30 + order[man]).append(" 200 0 0;");
            }
            for (int second = 1; second <= 8; second++) {
                check.about("II: round 2 of " + men + " MEN, SECOND " + second);
                WindJump x = Check.told(text + "second " + second + ";");
                due("start", men, x.start(men));
                due("round 2 begins at once", 2, x.now(1));
                due("nobody has started in it", 0, x.now(4));
                due("the second", 20 * men, x.now(0));
                int in = Math.min(second, men);
                due("the worst of those who are in it", x.ranked(in - 1), x.now(3));
                int[] ranked = new int[men];
                for (int rank = 0; rank < men; rank++) {
                    ranked[rank] = x.ranked(rank);
                }
                due("as many as there are", in, x.start(16));
                for (int rank = 0; rank < men; rank++) {
                    due("ahead of RANK " + rank, rank < in ? in - 1 - rank : -10000, x.jump(ranked[rank], 2, 7));
                }
                due("round 3", 3, x.now(1));
                due("nobody starts", -2, x.now(3));
                due("nobody has started in it", 0, x.now(4));
                due("start", -1, x.start(1));
                due("letGo", -1, x.letGo(0));
            }
        }
        check.about("II: when all of round 1 have started: without MEN none has");
        WindJump x = new WindJump();
        due("round", 1, x.now(1));
        due("start", -1, x.start(16));
        due("letGo", -1, x.letGo(0));
        due("pause", 5, x.pause(5));
        due("round", 1, x.now(1));
    }

    private void roundsOneByOne() {
        check.about("II: START: by numbers in round 1; in round 2 the worst first");
        WindJump x = Check.told("far = 900 + weight; second 2;" + "man a 60 200 0 0; man b 80 200 0 0; man c 70 200 0 0;");
        int[] next = {0, 1, 2, 2, 1, -2};
        int[] round = {1, 1, 1, 2, 2, 3};
        int[] started = {0, 1, 2, 0, 1, 0};
        for (int i = 0; i < next.length; i++) {
            due("round " + i, round[i], x.now(1));
            due("next " + i, next[i], x.now(3));
            due("started " + i, started[i], x.now(4));
            due("start " + i, i < 5 ? 1 : -1, x.start(1));
        }
        check.about("II: the order of round 2 is that of round 1's end, whatever POINTS come then");
        x = Check.told("far = 900 + weight + bar * 100; second 3; man a 60 200 0 0; man b 80 200 0 0; man c 70 200 0 0;");
        x.start(3);
        due("the worst", 0, x.now(3));
        x.gate(10);
        due("as far", 0, x.letGo(0));
        due("the next", 2, x.now(3));
        x.gate(40);
        due("far", 900 + 70 + 2000, x.letGo(0));
        due("the next", 1, x.now(3));
        x.letGo(0);
        due("round", 3, x.now(1));
        due("the GATE stays", 40, x.now(2));
    }

    private void ranks() {
        check.about("II: RANK: by POINTS of all rounds together, most first, of alike ones by numbers");
        WindJump x = Check.told("far = 900 + weight; man a 50 200 0 0; man b 60 200 0 0; man c 60 200 0 0; man d 50 200 0 0;");
        dueRanks(x, 0, 1, 2, 3);
        x.start(1);
        dueRanks(x, 0, 1, 2, 3);
        x.start(1);
        dueRanks(x, 1, 0, 2, 3);
        x.start(1);
        dueRanks(x, 1, 2, 0, 3);
        x.start(1);
        dueRanks(x, 1, 2, 0, 3);
        int[] order = {3, 0, 2, 1};
        for (int i = 0; i < 4; i++) {
            due("in round 2", order[i], x.now(3));
            x.start(1);
        }
        dueRanks(x, 1, 2, 0, 3);
        for (int man = 0; man < 4; man++) {
            due("POINTS of both rounds", 2 * x.jump(man, 1, 1), x.points(man));
        }
        check.about("II: who has not started yet has 0");
        x = Check.told("far = if weight < 55 then 0 else 900; man a 50 200 0 0; man b 60 200 0 0; man c 50 200 0 0;");
        x.start(1);
        due("POINTS of 0 at least", 0, x.points(0));
        dueRanks(x, 0, 1, 2);
        x.start(1);
        dueRanks(x, 1, 0, 2);
        due("POINTS of who has not started", 0, x.points(2));
    }

    private void dueRanks(WindJump x, int... men) {
        for (int rank = 0; rank < men.length; rank++) {
            due("ranked(" + rank + ")", men[rank], x.ranked(rank));
            due("rank(" + men[rank] + ")", rank, x.rank(men[rank]));
        }
    }

    private void byHand() {
        check.about("II: By hand: one who is let go behind so many seconds, whatever GOES tells");
        for (String goes : new String[] {"0", "1"}) {
            WindJump x = Check.told(people(4, 0) + "waits 3 10; far = 100 + gust; wind = at; parts 1 0 0 0 0; goes = " + goes + ";");
            for (int n = 0; n <= 3; n++) {
                int second = x.now(0) + n;
                due("LENGTH", 100 + second, x.letGo(n));
                due("second", second + 10, x.now(0));
            }
        }
        check.about("II: By hand: the GATE changed, seconds that go by: they count for the next JUMP alone");
        WindJump x = Check.told(people(2, 0) + "far = 500 + bar * 10 + gust; wind = at; parts 1 0 0 0 0; waits 0 10;");
        due("LENGTH", 500, x.letGo(0));
        x.gate(25);
        x.pause(4);
        due("LENGTH", 500 + 50 + 14, x.letGo(0));
        due("GATE", 20, x.jump(0, 1, 5));
        due("GATE", 25, x.jump(1, 1, 5));
        due("in", 0, x.jump(0, 1, 4));
        due("in", 14, x.jump(1, 1, 4));
        due("the GATE of round 2", 25, x.now(2));
    }
}
