/** Promises 6 to 42 and terms III and IV, sentence by sentence: just within each bound, at it and just beyond it. */
public final class CallEdgeTest {
    private static final int NO = -10000;
    private static final String ANN = "man ann 50 200 0 0;";

    private final Check check = new Check();

    public static void main(String[] args) {
        CallEdgeTest test = new CallEdgeTest();
        test.starts();
        test.bounds();
        test.undoForty();
        test.tries();
        test.bestWaits();
        test.costs();
        test.pounds();
        test.gains();
        test.numbers();
        test.gatesOfAll();
        test.crowns();
        test.withoutJudge();
        test.withoutByOne();
        test.needs();
        test.needsByNone();
        test.spreads();
        test.leads();
        test.turned();
        test.harsh();
        test.calm();
        test.windiest();
        test.progress();
        test.himself();
        test.told();
        test.slips();
        test.slots();
        test.counts();
        test.ofOneMan();
        test.fullest();
        test.fullestKept();
        test.check.end("CallEdgeTest");
    }

    private void due(String call, long want, long got) {
        check.due(call, want, got);
    }

    private void due(String call, boolean want, boolean got) {
        check.due(call, want, got);
    }

    private void starts() {
        String eight = "man a 50 200 0 0; man b 50 200 0 0; man c 50 200 0 0; man d 50 200 0 0; man e 50 200 0 0; man f 50 200 0 0;"
            + "man g 50 200 0 0; man h 50 200 0 0; waits 0 1;";
        for (int n = 1; n <= 16; n++) {
            check.about("13: n STARTS (1 .. 16; as many as there are): how many: " + n);
            WindJump x = Check.told(eight);
            due("start", n, x.start(n));
            due("round", n < 8 ? 1 : n < 16 ? 2 : 3, x.now(1));
            due("started", n % 8, x.now(4));
            due("second", n, x.now(0));
            due("one thing to undo", 1, x.count(9));
            due("as many as there are", n == 16 ? -1 : 16 - n, x.start(16));
            due("things to undo", n == 16 ? 1 : 2, x.count(9));
        }
        check.about("13: as many as there are");
        WindJump x = Check.told(ANN);
        due("start(16)", 2, x.start(16));
        due("undo", true, x.undo());
        due("start(1)", 1, x.start(1));
        due("start(2)", 1, x.start(2));
        check.about("14: letGo: LENGTH");
        x = Check.told("man a 50 200 0 0; wind = at; parts 1 0 0 0 0; far = 100 + gust; waits 30 50;");
        due("letGo(31)", -1, x.letGo(31));
        due("letGo(30)", 130, x.letGo(30));
        due("letGo(0)", 180, x.letGo(0));
    }

    private void bounds() {
        check.about("6: now, a new object's and then");
        WindJump x = Check.told("man a 50 200 0 0; wind = 7; parts 0 0 0 0 0;");
        due("MEAN", 7, x.now(5));
        due("TRUE", 0, x.now(6));
        check.about("7: wind: SECTION 0 .. 4, second 0 .. 99999");
        x = Check.told("wind = section * 10 + at / (9999 * 10 + 9);");
        for (int section = 0; section < 5; section++) {
            due("in 0", section * 10, x.wind(section, 0));
            due("in 99998", section * 10, x.wind(section, 99998));
            due("in 99999", section * 10 + 1, x.wind(section, 99999));
        }
        check.about("15: gate 0 .. 40");
        x = new WindJump();
        for (int gate = 0; gate <= 40; gate++) {
            due("gate " + gate, true, x.gate(gate));
            due("now(2)", gate, x.now(2));
            due("it is that", false, x.gate(gate));
        }
        check.about("16: pause: n seconds (1 .. 999) go by: which it is");
        x = new WindJump();
        due("pause(1)", 1, x.pause(1));
        due("pause(999)", 1000, x.pause(999));
        due("pause(998)", 1998, x.pause(998));
        due("now(0)", 1998, x.now(0));
        due("nobody starts", -2, x.now(3));
    }

    private void undoForty() {
        for (int done = 38; done <= 45; done++) {
            check.about("17: the last 40 can be: " + done + " done");
            WindJump x = new WindJump();
            for (int n = 1; n <= done; n++) {
                due("pause", n, x.pause(1));
                due("things that can be undone", Math.min(n, 40), x.count(9));
            }
            int can = Math.min(done, 40);
            for (int n = 1; n <= can; n++) {
                due("undo", true, x.undo());
                due("second", done - n, x.now(0));
                due("things that can be undone", can - n, x.count(9));
            }
            due("undo", false, x.undo());
            due("second", done - can, x.now(0));
            due("a thing done then", done - can + 9, x.pause(9));
            due("can be undone", true, x.undo());
            due("alone", false, x.undo());
        }
        check.about("17: of each kind, after forty");
        WindJump x = Check.told(PromiseTest.HILL);
        for (int n = 0; n < 50; n++) {
            x.gate(n % 2);
        }
        x.letGo(2);
        x.start(2);
        x.pause(3);
        due("things that can be undone", 40, x.count(9));
        due("undo", true, x.undo() && x.undo());
        due("one has started", 1, x.now(4));
        due("undo", true, x.undo());
        due("none has started", 0, x.now(4));
        for (int n = 0; n < 37; n++) {
            due("undo", true, x.undo());
        }
        due("undo", false, x.undo());
        due("GATE of the 13th", 0, x.now(2));
        check.about("4, 41: nothing can be undone then");
        x.pause(1);
        x.hold(0);
        due("restore", true, x.restore(0));
        due("undo", false, x.undo());
        x.pause(1);
        due("read", 0, x.read());
        due("undo", false, x.undo());
    }

    private void tries() {
        check.about("18: n seconds from now (0 .. 999), so LATE (-9 .. 9)");
        WindJump x = Check.told(ANN + "judge j 0 0; judge k 1 0; far = 900 + gust + late * 10; wind = at / 10; parts 1 0 0 0 0;"
            + "gives = gust * 100; style = 90 + length / 100 + late + lean; gate 20 3;");
        x.pause(5);
        x.gate(10);
        for (int late : new int[] {-9, -8, 0, 8, 9}) {
            for (int n : new int[] {0, 1, 4, 5, 984, 985, 998, 999}) {
                int length = 900 + Math.min((5 + n) / 10, 99) + late * 10;
                int style = 2 * (90 + length / 100 + late) + 1;
                int mean = 0;
                for (int k = 0; k < 5; k++) {
                    mean += Math.min((5 + n + k) / 10, 99);
                }
                int points = 600 + 2 * (length - 900) + style + Math.min(999, mean / 5 * 100) + 30;
                due("LENGTH", length, x.attempt(0, n, late, 0));
                due("POINTS", Math.max(0, points), x.attempt(0, n, late, 1));
                due("STYLE", style, x.attempt(0, n, late, 2));
            }
        }
        check.about("18: at the GATE that is, as many having started as have");
        x = Check.told(ANN + "man b 50 200 0 0; man c 50 200 0 0; snow 7; far = 500 + bar * 10 - white; waits 0 1; second 3;");
        for (int started = 0; started < 6; started++) {
            due("LENGTH", 500 - 7 * (started % 3), x.attempt(2, 0, 0, 0));
            x.gate(23);
            due("LENGTH", 530 - 7 * (started % 3), x.attempt(0, 0, 0, 0));
            x.gate(20);
            x.start(1);
        }
        due("round 3", 500, x.attempt(1, 0, 0, 0));
    }

    private void bestWaits() {
        // LENGTH is best in one second, POINTS in another.
        for (int best = 0; best <= 6; best++) {
            check.about("19: behind how many seconds (0 to WAITS) from now it is LONGEST: " + best);
            WindJump x = Check.told(ANN + "waits 5 60; parts 1 0 0 0 0; wind = if at < " + (3 + best) + " then 1 else if at < "
                + (4 + best) + " then 9 else 2; far = 900 + gust;");
            x.pause(3);
            boolean before = best <= 5;
            due("what 0", before ? best : 0, x.wait(0, 0));
            due("what 1", before ? 909 : 901, x.wait(0, 1));
            due("what 2", before ? best : 0, x.wait(0, 2));
            due("what 3", before ? 618 : 602, x.wait(0, 3));
        }
        check.about("19: (or has most POINTS); of alike ones the first");
        WindJump x = Check.told(ANN + "waits 6 60; parts 1 0 0 0 0; far = 900 + gust; gives = 0 - gust * 10;"
            + "wind = if at < 2 then 5 else if at < 4 then 40 else if at < 5 then 5 else 40;");
        due("what 0", 2, x.wait(0, 0));
        due("what 1", 940, x.wait(0, 1));
        // LENGTH 905 in MEAN wind (5 + 5 + 40 + 40 + 5) by 5, then 26, then 940 in 33
        due("what 2", 0, x.wait(0, 2));
        due("what 3", 600 + 10 - 190, x.wait(0, 3));
        check.about("19: LONGEST by 1, most POINTS by 1");
        x = Check.told(ANN + "hill 900 1000 10; waits 4 60; parts 1 0 0 0 0; far = 900 + gust; wind = if at < 3 then 1 else 2;");
        due("what 0", 3, x.wait(0, 0));
        due("what 1", 902, x.wait(0, 1));
        due("what 2", 3, x.wait(0, 2));
        due("what 3", 602, x.wait(0, 3));
        for (int weight : new int[] {30, 70}) {
            x = Check.told(ANN + "man b " + weight + " 200 0 0; hill 900 1000 10; far = 850 + weight;");
            int[] due = {0, 850 + weight, 0, 550 + weight};
            for (int what = 0; what < 4; what++) {
                due("of the second MAN, all alike: what " + what, due[what], x.wait(1, what));
            }
        }
        check.about("19: LATE 0, at the GATE that is, as many having started as have");
        x = Check.told(ANN + "man b 50 200 9 0; snow 5; waits 0 1; far = 500 - white + bar - late; seed 3;");
        x.start(1);
        x.gate(30);
        due("what 1", 505, x.wait(1, 1));
        due("what 0", 0, x.wait(1, 0));
        due("what 2", 0, x.wait(1, 2));
        check.about("19: POINTS may all be 0");
        x = Check.told(ANN + "far = 0;");
        due("what 2", 0, x.wait(0, 2));
        due("what 3", 0, x.wait(0, 3));
        due("what 0", 0, x.wait(0, 0));
        due("what 1", 0, x.wait(0, 1));
    }

    private void costs() {
        check.about("20: how much shorter (or how many POINTS less) it is, let go now, so LATE instead of 0 (below 0: more)");
        WindJump x = Check.told(ANN + "judge j 0 0; far = 900 - late * 3; style = 100 - late; parts 1 0 0 0 0; wind = at;");
        x.pause(8);
        for (int late = -9; late <= 9; late++) {
            due("cost of " + late, 3 * late, x.cost(0, late, false));
            due("POINTS of " + late, 6 * late + late, x.cost(0, late, true));
        }
        check.about("20: POINTS of 0 at least, LENGTH held");
        x = Check.told(ANN + "far = 601 - late * 100; gives = 0;");
        due("cost", 2, x.cost(0, 9, true));
        due("cost", 601, x.cost(0, 9, false));
        due("cost", -9399 + 1, Check.told(ANN + "far = 601 - late * 9999;").cost(0, -9, false));
        check.about("20: let go now, at the GATE that is, as many having started as have");
        x = Check.told(ANN + "man b 50 200 0 0; snow 2; waits 0 1; parts 1 0 0 0 0; wind = at; far = 500 - late * (gust + white + bar);");
        x.start(1);
        x.pause(4);
        x.gate(30);
        due("cost", 3 * (5 + 2 + 10), x.cost(1, 3, false));
    }

    private void pounds() {
        check.about("21: how much longer it is, let go now, LATE 0, with a WEIGHT and a SKI so much less (below 0: shorter)");
        WindJump x = Check.told("man a 30 100 9 0; man b 120 300 0 0; far = 900 - weight * 2 + ski * 3;");
        for (int man = 0; man < 2; man++) {
            for (int weight : new int[] {0, 1, 29, 30}) {
                for (int ski : new int[] {0, 1, 59, 60}) {
                    due("pound", 2 * weight - 3 * ski, x.pound(man, weight, ski));
                }
            }
        }
        check.about("21: LENGTH held to 0 .. 9999");
        due("pound", -40, Check.told("man a 30 100 0 0; far = ski - 60;").pound(0, 0, 60));
        due("pound", 0, Check.told("man a 30 100 0 0; far = 9999 + weight;").pound(0, 30, 60));
        check.about("21: let go now, at the GATE that is, as many having started as have");
        x = Check.told("man a 50 200 0 0; man b 90 200 9 0; snow 2; waits 0 1; parts 1 0 0 0 0; wind = at; seed 9;"
            + "far = 9000 - weight * (gust + white + bar + late * 100);");
        x.start(1);
        x.pause(4);
        x.gate(30);
        due("pound", 10 * (5 + 2 + 10), x.pound(1, 10, 0));
    }

    private void gains() {
        check.about("22: how many POINTS he has more, let go now, LATE 0, than if no wind blew at all (GIVES and all)");
        // TRUE wind 8 and the second, MEAN wind 5 of it.
        String text = ANN + "man b 50 200 9 0; judge j 0 0; parts 1 0 0 0 0; wind = if section < 1 then 10 + at else 5; waits 0 1; snow 3;";
        WindJump x = Check.told(text + "far = 900 + gust * 3 + gust * white + gust * bar; style = 100 + gust; gives = 7 - gust * 2;");
        due("gain", 60 + 10 - 12, x.gain(0));
        x.start(1);
        x.pause(4);
        x.gate(22);
        // TRUE wind 15, MEAN wind (15 + 4 * 5) by 5
        due("gain", 2 * 15 * (3 + 3 + 2) + 15 - 14, x.gain(1));
        check.about("22: below 0: less; POINTS of 0 at least");
        x = Check.told(ANN + "wind = 0 - 10; far = 900 + gust;");
        due("gain", -20, x.gain(0));
        due("gain", -600, Check.told(ANN + "wind = 0 - 10; far = 900 + gust * 90;").gain(0));
        due("gain", 0, Check.told(ANN + "wind = 0 - 10; far = gust;").gain(0));
        due("gain without wind", 0, Check.told(ANN + "far = 900; gives = 5;").gain(0));
        due("GUSTS too are wind", 2 * (Lot.of(61, 0, 0) - 30),
            Check.told(ANN + "gusts 30; parts 1 0 0 0 0; far = 900 + gust; gives = 3;").gain(0));
    }

    private void numbers() {
        for (int men = 1; men <= 8; men++) {
            check.about("23: how many POINTS more, LATE 0, if nobody has started ahead than if all others of MEN have: " + men);
            StringBuilder text = new StringBuilder("hill 900 1000 10; snow 9; far = 900 - white; waits 0 1;");
            for (int man = 0; man < men; man++) {
                text.append("man m").append((char) ('a' + man)).append(" 50 200 9 0;");
            }
            WindJump x = Check.told(text.toString());
            due("number", 9 * (men - 1), x.number(men - 1));
            x.start(men / 2 + 1);
            due("number, whoever has started", 9 * (men - 1), x.number(0));
        }
        check.about("23: let go now, at the GATE that is");
        WindJump x = Check.told(ANN + "man b 50 200 0 0; hill 900 1000 10; snow 1; parts 1 0 0 0 0; wind = at;"
            + "far = 900 - white * (gust + bar); judge j 0 0; style = 100 + length / 10; gate 20 50;");
        x.pause(30);
        x.gate(30);
        due("number", 40 + 4, x.number(1));
        due("number below 0", -20, Check.told(ANN + "man b 50 200 0 0; snow 10; far = 900 + white;").number(0));
    }

    private void gatesOfAll() {
        for (int n = 0; n <= 10; n++) {
            check.about("24: in any second from now to 9 more: wind in " + n);
            WindJump x = Check.told(ANN + "hill 900 1000 20; parts 1 0 0 0 0; far = 900 + bar * 10 + gust; wind = if at < " + (5 + n)
                + " then 0 else if at < " + (6 + n) + " then 50 else 0;");
            x.pause(5);
            due("the GATE", n <= 9 ? 25 : 30, x.gates(0));
            due("how far, let go now", n == 0 ? 1000 : n <= 9 ? 950 : 1000, x.gates(1));
        }
        for (int safe = 898; safe <= 902; safe++) {
            check.about("24: gets beyond SAFE: " + safe);
            WindJump x = Check.told("man a 50 200 9 0; man b 60 200 9 0; hill 900 " + safe + " 20; far = 840 + weight + bar - late * 50;");
            due("the GATE", safe - 880, x.gates(0));
            due("together", 2 * safe - 10, x.gates(1));
        }
        check.about("24: the greatest GATE (0 .. 40); -2: none");
        due("40", 40, Check.told(ANN + "far = 1000 + bar - 20;").gates(0));
        due("39", 39, Check.told(ANN + "far = 1000 + bar - 19;").gates(0));
        due("1", 1, Check.told(ANN + "far = 1019 + bar;").gates(0));
        due("0", 0, Check.told(ANN + "far = 1020 + bar;").gates(0));
        due("none", -2, Check.told(ANN + "far = 1021 + bar;").gates(0));
        due("none together", -2, Check.told(ANN + "far = 1021 + bar;").gates(1));
        due("of LAWS that go down and up", 40, Check.told(ANN + "far = 1100 - bar * 5;").gates(0));
        due("the greatest, though lower ones are not", 30, Check.told(ANN + "far = if bar < 9 then 1100 else if bar < 11 then 1000"
            + " else 1100;").gates(0));
        due("0 alone", 0, Check.told(ANN + "far = if bar < 0 - 19 then 1000 else 1100;").gates(0));
        check.about("24: as many having started as have");
        WindJump x = Check.told(ANN + "man b 50 200 0 0; snow 3; far = 990 + bar - white; waits 0 1; gate 20 1;");
        due("first", 30, x.gates(0));
        x.start(1);
        due("second", 33, x.gates(0));
        due("together", 2000, x.gates(1));
        x.gate(7);
        due("whatever the GATE is", 33, x.gates(0));
    }

    private void crowns() {
        check.about("25: s SEEDS (1 .. 10) from the text's SEED on");
        String two = "man a 50 200 9 0; man b 50 200 9 0; far = 900 + late * 10; waits 0 10; second 1;";
        for (int seed : new int[] {0, 5, 9990, 9999}) {
            WindJump x = Check.told(two + "seed " + seed + ";");
            int crowns = 0;
            for (int s = 1; s <= 10; s++) {
                crowns += firstOf(seed + s - 1);
                due("crown(1, " + s + ") of " + seed, crowns, x.crown(1, s));
                due("crown(0, " + s + ") of " + seed, s - crowns, x.crown(0, s));
            }
        }
        check.about("25: from now on: what was stays");
        WindJump x = Check.told("man a 50 200 9 0; man b 50 200 9 0; far = 900 + late + bar * 50; waits 0 10; second 2; seed 7; gate 20 0;");
        x.gate(40);
        x.letGo(0);
        x.gate(20);
        due("a's 1000 more", 10, x.crown(0, 10));
        due("b", 0, x.crown(1, 10));
        check.about("25: from now on: at the GATE that is, those who have not started yet");
        x = Check.told("man a 50 200 0 0; man b 60 200 0 0; far = 900 + bar * (weight - 55); waits 0 10; second 1;");
        x.gate(25);
        due("above", 10, x.crown(1, 10));
        x.gate(15);
        due("below", 10, x.crown(0, 10));
        for (int gate = 19; gate <= 21; gate++) {
            x.gate(gate);
            due("b at " + gate, gate > 20 ? 10 : 0, x.crown(1, 10));
        }
        x = Check.told("man a 50 200 0 0; man b 60 200 0 0; far = 900 + bar; waits 0 10; second 1; gate 20 0;");
        x.gate(10);
        x.letGo(0);
        x.gate(20);
        due("b alone has not started", 10, x.crown(1, 10));
        due("a does not start once more", 0, x.crown(0, 10));
        x.start(2);
        due("round 3", 10, x.crown(1, 10));
        check.about("25: from now on: in the second that is");
        x = Check.told("man a 50 200 0 0; man b 60 200 0 0; wind = at; parts 1 0 0 0 0; far = if gust < 40 then weight else 200 - weight;"
            + "hill 100 1000 20; waits 0 5; second 1;");
        due("b is first in the first seconds", 1, x.crown(1, 1));
        x.pause(40);
        due("a is first then", 1, x.crown(0, 1));
        check.about("25: by GOES");
        x = Check.told("man a 50 200 0 0; man b 60 200 0 0; wind = at; parts 1 0 0 0 0; far = 900 + gust; waits 9 1; goes = weight - 55;"
            + "second 1;");
        due("a waits longer", 1, x.crown(1, 1));
        due("nobody of GOES", 0, x.crown(0, 1));
        check.about("25: when all has been started");
        due("one MAN", 10, Check.told(ANN).crown(0, 10));
        due("of alike ones the first", 10, Check.told(ANN + "man b 50 200 0 0;").crown(0, 10));
    }

    /** 1 if b is first of the two MEN of crowns() with a SEED: then he alone is in round 2, and gets POINTS once more. */
    private static int firstOf(int seed) {
        return Lot.of(19, seed, 100010) > Lot.of(19, seed, 100000) ? 1 : 0;
    }

    private void withoutJudge() {
        String men = "man a 50 200 0 1; man b 50 200 0 2; far = 900; second 1; style = 100 + home * lean * 10;";
        check.about("26: by POINTS of his JUMPS with STYLE marked by the others: one JUDGE");
        WindJump x = Check.told(men + "judge j 5 2;");
        due("nobody has started", 0, x.without(0, 0));
        x.letGo(0);
        due("b has not started", 1, x.without(1, 0));
        x.letGo(0);
        due("rank", 0, x.rank(1));
        due("without him", 0, x.without(0, 0));
        due("without him", 1, x.without(1, 0));
        check.about("26: two JUDGES: the other one counts");
        x = Check.told(men + "judge j 5 2; judge k 3 1;");
        x.letGo(0);
        x.letGo(0);
        int[][] two = {{0, 1}, {1, 0}};
        for (int judge = 0; judge < 2; judge++) {
            due("a without " + judge, two[judge][0], x.without(0, judge));
            due("b without " + judge, two[judge][1], x.without(1, judge));
        }
        check.about("26: three JUDGES: both others count; four: one of the three others");
        x = Check.told(men + "judge j 9 2; judge k 4 1; judge l 4 1;");
        x.letGo(0);
        x.letGo(0);
        // marks of a: 100 140 140 (140 counts), of b: 190 100 100 (100 counts)
        due("rank", 0, x.rank(0));
        due("a without j: 280 to 200", 0, x.without(0, 0));
        due("a without k: 240 to 290", 1, x.without(0, 1));
        due("b without l", 0, x.without(1, 2));
        x = Check.told(men + "judge j 9 2; judge k 4 1; judge l 4 1; judge m 0 0;");
        x.letGo(0);
        x.letGo(0);
        // of a: 100 140 140 100: 240; of b: 190 100 100 100: 200; without k: 100 and 100
        due("rank", 0, x.rank(0));
        due("a without k: of alike ones by numbers", 0, x.without(0, 1));
        due("b without j", 1, x.without(1, 0));
        check.about("26: his JUMPS of both rounds");
        x = Check.told("man a 50 200 0 1; man b 50 200 0 2; far = 900 + bar; style = home * 50; judge j 0 2; gate 20 0; waits 0 1;");
        int[] gates = {20, 40, 40, 10};
        for (int gate : gates) {
            x.gate(gate);
            x.letGo(0);
        }
        // a 600 and 640, b 640 and 580 without the 50 that he has for each
        due("b is first", 1, x.ranked(0));
        due("a without j", 0, x.without(0, 0));
        due("b without j", 1, x.without(1, 0));
        check.about("26: who has not started yet has 0, of alike ones by numbers");
        x = Check.told("man a 50 200 0 0; man b 50 200 0 0; far = 900 + bar * 100; judge j 0 0; style = 0; gate 20 0; waits 0 1;");
        x.gate(0);
        x.letGo(0);
        due("a has 0", 0, x.points(0));
        due("a and b", 0, x.without(0, 0));
        due("b and a", 1, x.without(1, 0));
        x.letGo(0);
        x.letGo(0);
        due("round 2: b's JUMP has 0, a has none", 0, x.points(1) + x.jump(1, 2, 1));
        due("a and b", 0, x.without(0, 0));
    }

    /** WITHOUT where one POINT more or less in a JUMP would change the RANKS. */
    private void withoutByOne() {
        check.about("26: who has not started yet has 0, whatever a JUMP of nothing would be worth");
        WindJump x = Check.told("hill 900 1000 0; man a 50 200 0 0; man b 50 200 0 0; judge j 0 0; style = 0; waits 0 1;");
        x.letGo(0);
        due("a", 0, x.without(0, 0));
        due("b", 1, x.without(1, 0));
        check.about("26: what GIVES told of each JUMP's MEAN wind");
        x = Check.told("man a 50 200 0 0; man b 50 200 0 0; judge j 0 0; style = 0; waits 0 10; far = 900; gives = gust * 3;"
            + "wind = if at < 10 then 20 else 0 - 20;");
        x.start(2);
        due("a first", 0, x.without(0, 0));
        x = Check.told("man a 50 200 0 0; man b 50 200 0 0; judge j 0 0; style = 0; waits 0 10; far = 900; gives = 0 - gust * 3;"
            + "wind = if at < 10 then 20 else 0 - 20;");
        x.start(2);
        due("b first", 0, x.without(1, 0));
        for (int more = -1; more <= 1; more++) {
            check.about("26: b's two JUMPS and a's one: " + more);
            // a has 600 and GIVES 7, b 300 and 7 and then so much that he has 607 and so many more
            x = Check.told("hill 900 1000 10; man a 50 200 0 0; man b 50 200 0 0; judge j 0 0; judge k 0 0; style = 3; gives = 7;"
                + "waits 0 1; gate 20 0; far = if bar < 1 then 900 else if bar < 2 then 600 else " + (590 + more) + ";");
            x.letGo(0);
            x.gate(21);
            x.letGo(0);
            x.gate(22);
            x.letGo(0);
            due("a has", 613, x.points(0));
            due("b has", 313 + 303 + more, x.points(1));
            due("b without j: 310 and " + (300 + more) + " to 610", more > 0 ? 0 : 1, x.without(1, 0));
        }
        check.about("26: a JUDGE of the second round, of both");
        x = Check.told("hill 900 1000 10; man a 50 200 0 1; man b 50 200 0 2; judge j 9 2; judge k 8 1; style = lean * home * 10; far = 900;"
            + "waits 0 1;");
        x.start(4);
        // a 600 and 80, b 600 and 90, each twice
        due("b is first", 1, x.ranked(0));
        due("without j a is", 0, x.without(0, 0));
        due("without k b is", 0, x.without(1, 1));
        x = Check.told("hill 900 1000 10; man a 50 200 0 1; man b 50 200 0 2; judge j 5 2; judge k 9 1; style = lean * home * 10; far = 900;"
            + "waits 0 1;");
        x.start(4);
        due("a is first", 0, x.ranked(0));
        due("without j a is", 0, x.without(0, 0));
        due("without k b is", 0, x.without(1, 1));
        check.about("26: JUMPS that differ by what GIVES tells alone");
        x = Check.told("hill 900 1000 0; man a 50 200 0 0; man b 50 200 0 0; man c 50 200 0 0; judge j 0 0; waits 0 3; wind = at; gives = gust;");
        for (int starts = 1; starts <= 6; starts++) {
            x.start(1);
            for (int man = 0; man < 3; man++) {
                due("behind " + starts + " STARTS", x.rank(man), x.without(man, 0));
            }
        }
        due("the last one is first", 2, x.ranked(0));
    }

    private void needs() {
        // without JUDGES: 600 + L - K with METRE 10
        String hill = "hill 900 1000 10; far = 800; waits 0 1; gate 20 7;";
        check.about("27: how LONG (0 .. 9999) the next JUMP of his must at least be .. so that he is first by RANK then");
        WindJump x = Check.told(hill + "man a 50 200 0 0; man b 50 200 0 0; man c 50 200 0 0;");
        due("a, none has POINTS", 0, x.needs(0));
        due("b: 1 at least", 301, x.needs(1));
        due("c: 1 at least", 301, x.needs(2));
        x.start(1);
        due("a has none left", -1, x.needs(0));
        due("b: more than a's 500", 801, x.needs(1));
        x.gate(22);
        due("b: at the GATE that is", 815, x.needs(1));
        x.gate(17);
        due("b: at the GATE that is", 801 - 21, x.needs(1));
        x.start(2);
        due("round 2", 2, x.now(1));
        x.gate(20);
        check.about("27: the others as they are, of alike ones by numbers");
        due("a: as much as b's 521", 321, x.needs(0));
        due("b: has as much as c, who stands behind him, and more than a", 0, x.needs(1));
        due("c: 1 more than b, who stands ahead of him with as much", 301, x.needs(2));
        check.about("27: with no wind, LATE 0");
        x = Check.told("hill 900 1000 10; man a 50 200 0 0; man b 50 200 9 0; far = 800; wind = 50; gives = 30 + gust; gusts 9;"
            + "judge j 1 0; style = 5 + gust + late * 9 + lean; waits 0 1;");
        x.letGo(0);
        due("b: as STYLE 6 and GIVES 30 are without wind", 301 - 36 + x.points(0), x.needs(1));
        x = Check.told("hill 900 1000 10; man a 50 200 0 0; man b 50 200 0 0; far = 800; wind = 50; gives = 30; waits 0 1;");
        x.letGo(0);
        due("a has", 530, x.points(0));
        due("b: what GIVES tells counts", 531 - 30 + 300, x.needs(1));
        for (String side : new String[] {"gust < 0", "0 < gust"}) {
            for (int step : new int[] {-1, 1}) {
                x = Check.told("hill 900 1000 10; man a 50 200 0 0; man b 50 200 0 0; far = 800; wind = 50; waits 0 1; gives = if " + side
                    + " then " + (step < 0 ? "0 - 300" : "300") + " else 0;");
                x.letGo(0);
                due("b: GIVES of a wind of 0", 301 + x.points(0), x.needs(1));
            }
        }
        check.about("27: NONE: he has no JUMP left in this round: not in it, or has started");
        x = Check.told(hill + "second 2; man a 50 200 0 0; man b 50 200 0 0; man c 50 200 0 0;");
        x.start(3);
        due("c is not in round 2", -1, x.needs(2));
        due("b starts", true, x.needs(1) >= 0);
        due("a starts", true, x.needs(0) >= 0);
        x.start(1);
        due("b has started", -1, x.needs(1));
        x.start(1);
        due("round 3", -1, x.needs(0));
    }

    private void needsByNone() {
        check.about("27: -2: by none; 9999 is one");
        // with METRE 10 a LENGTH of 9999 is worth 9699 POINTS at GATE 20; one below or above it 1 more or less
        WindJump x = Check.told("hill 900 1000 10; man a 50 200 0 0; man b 50 200 0 0; far = 9998; waits 0 1; gate 20 1;");
        x.letGo(0);
        due("a has", 9698, x.points(0));
        due("b: 9699", 9999, x.needs(1));
        x.gate(21);
        due("b: by none", -2, x.needs(1));
        x.gate(19);
        due("b: 1 less", 9998, x.needs(1));
        check.about("27: at least: the least of all that are enough");
        String two = "hill 900 1000 10; man a 50 200 0 0; man b 50 200 0 0; judge j 0 0; waits 0 1; far = 700;";
        x = Check.told(two + "style = if length < 800 then 200 else if length < 5000 then 0 else 200;");
        x.letGo(0);
        due("a has 400 and 200", 600, x.points(0));
        due("b: 401 + 200", 701, x.needs(1));
        x = Check.told(two + "style = if length < 701 then 0 else if length < 5000 then 0 else 200;");
        x.letGo(0);
        due("b: 401 + 0", 701, x.needs(1));
        x = Check.told(two + "hill 900 1000 0; style = if length < 4999 then 5 else if length < 5000 then 6 else 5;");
        x.letGo(0);
        due("a has", 605, x.points(0));
        due("b: 4999 alone", 4999, x.needs(1));
        x = Check.told(two + "hill 900 1000 0; style = 200; judge k 0 0; judge l 0 0;");
        x.letGo(0);
        due("b: alike is not enough", -2, x.needs(1));
        x = Check.told("hill 900 1000 0; man a 50 200 0 0; man b 50 200 0 0; judge j 0 0; judge k 0 0; judge l 0 0; waits 0 1; far = 700;"
            + "style = if length < 701 then 199 else 200;");
        x.letGo(0);
        due("b: one mark of three", 701, x.needs(1));
        x = Check.told("hill 900 1000 99; " + ANN + "far = 0;");
        due("alone", 0, x.needs(0));
    }

    private void spreads() {
        for (int at = 0; at <= 6; at++) {
            check.about("28: let go behind 0 to WAITS seconds from now: one longer in " + at);
            String begin = "man ann 50 200 9 0; waits 5 60; parts 1 0 0 0 0; far = 900 + gust; wind = if at < " + (4 + at) + " then 10 else if at < "
                + (5 + at) + " then ";
            WindJump x = Check.told(begin + "17 else 10;");
            x.pause(4);
            due("longer", at <= 5 ? 7 : 0, x.spread(0));
            x = Check.told(begin + "1 else 10;");
            x.pause(4);
            due("shorter", at <= 5 ? 9 : 0, x.spread(0));
        }
        check.about("28: at the GATE that is, as many having started as have");
        WindJump x = Check.told(ANN + "man b 50 200 0 0; snow 2; wind = at; parts 1 0 0 0 0; waits 3 10;"
            + "far = 500 + gust * (1 + white + bar);");
        due("spread", 3, x.spread(1));
        x.letGo(0);
        due("spread", 9, x.spread(1));
        x.gate(24);
        due("spread", 21, x.spread(1));
        check.about("29: AT a GATE: as many having started as have, LATE 0, in the wind that is");
        due("LENGTH", 500 + 10 * (1 + 2 - 20), x.atGate(1, 0, false));
        due("LENGTH", 500 + 10 * (1 + 2 + 20), x.atGate(1, 40, false));
        due("POINTS", 600 + 2 * (500 - 170 - 900) + 1000, x.atGate(1, 0, true));
        due("LENGTH of slips", 500, Check.told("man a 50 200 9 0; far = 500 + late;").atGate(0, 20, false));
    }

    private void leads() {
        check.about("30: how many POINTS he has more than who has most of the others (below 0: less; without others all he has)");
        WindJump x = Check.told("far = 900 + weight; waits 0 1; man a 50 200 0 0; man b 70 200 0 0; man c 70 200 0 0;");
        due("nobody has started", 0, x.lead(0));
        x.start(1);
        due("a", 700, x.lead(0));
        due("b", -700, x.lead(1));
        x.start(1);
        due("a", -40, x.lead(0));
        due("b", 40, x.lead(1));
        due("c", -740, x.lead(2));
        x.start(1);
        due("b: alike", 0, x.lead(1));
        due("c: alike", 0, x.lead(2));
        due("a", -40, x.lead(0));
        x = Check.told(ANN);
        due("alone, has none", 0, x.lead(0));
        x.start(2);
        due("alone, all he has", 1200, x.lead(0));
    }

    private void turned() {
        check.about("31: round 1 started with the last number first (round 2 as told)");
        // white costs: who starts first is best
        String text = "snow 5; far = 900 - white; waits 0 1; man a 50 200 0 0; man b 50 200 0 0; man c 50 200 0 0; second 1;";
        WindJump x = Check.told(text);
        int[] ranks = {2, 1, 0};
        for (int man = 0; man < 3; man++) {
            due("reversed(" + man + ")", ranks[man], x.reversed(man));
        }
        x.start(3);
        due("as it was", 0, x.rank(0));
        check.about("31: all from the text's begin: second 0, the text's GATE, nobody has started");
        x = Check.told("wind = 10 - at; parts 1 0 0 0 0; far = 900 + gust + bar * (weight - 55) ; waits 0 4; man a 50 200 0 0; man b 60 200 0 0;"
            + "second 1;");
        x.pause(30);
        x.gate(40);
        x.start(1);
        due("reversed(1)", 0, x.reversed(1));
        due("reversed(0)", 1, x.reversed(0));
        check.about("31: round 2 as told: the worst first of the first RANKS");
        // In round 2 who starts first gets 200 more, in round 1 who starts first gets 20 more: b, a; then a, b.
        x = Check.told("snow 1; far = if white < 1 then 920 else 900; waits 0 1; man a 50 200 0 0; man b 50 200 0 0;");
        due("a: 900 and 920", 0, x.reversed(0));
        due("b: 920 and 900, of alike ones by numbers", 1, x.reversed(1));
        check.about("31: by GOES and the text's SEED");
        x = Check.told("man a 50 200 9 0; man b 50 200 9 0; far = 900 + late; waits 0 10; second 1; seed 5;");
        int a = Lot.of(19, 5, 100010);
        int b = Lot.of(19, 5, 100000);
        due("reversed(0)", a >= b ? 0 : 1, x.reversed(0));
        x.crown(0, 10);
        due("reversed(0) behind crown", a >= b ? 0 : 1, x.reversed(0));
        due("alone", 0, Check.told(ANN).reversed(0));
    }

    private void harsh() {
        check.about("32: the JUDGE who gave least in all JUMPS that were, together; of alike ones the first; KIND: most");
        int[][] leans = {{3}, {1, 2}, {2, 1}, {1, 1, 1}, {2, 1, 1, 2}, {0, 9, 9, 0}, {5, 4, 3, 2, 1, 0, 6}};
        int[] least = {0, 0, 1, 0, 1, 0, 5};
        int[] most = {0, 1, 0, 0, 0, 1, 6};
        for (int i = 0; i < leans.length; i++) {
            StringBuilder text = new StringBuilder(ANN + "man b 50 200 0 0; style = 10 + lean; waits 0 1; second 1;");
            for (int j = 0; j < leans[i].length; j++) {
                text.append("judge j").append((char) ('a' + j)).append(' ').append(leans[i][j]).append(" 0;");
            }
            WindJump x = Check.told(text.toString());
            due("nobody has started", 0, x.harsh(false, 0) + x.harsh(true, 0) + x.harsh(false, 1) + x.harsh(true, 1));
            for (int jumps = 1; jumps <= 3; jumps++) {
                x.start(1);
                due("harsh", least[i], x.harsh(false, 0));
                due("kind", most[i], x.harsh(true, 0));
                due("least", jumps * (10 + leans[i][least[i]]), x.harsh(false, 1));
                due("most", jumps * (10 + leans[i][most[i]]), x.harsh(true, 1));
            }
        }
        check.about("32: in all JUMPS that were: of those in round 2 too, whoever is not");
        WindJump two = Check.told("far = 900 + weight; waits 0 1; man a 40 200 0 0; man b 50 200 0 0; second 1; judge j 0 0; style = 50;");
        two.start(3);
        due("a was not in round 2", NO, two.jump(0, 2, 0));
        due("three JUMPS", 150, two.harsh(true, 1));
        check.about("32: -2: no JUDGES; NONE for others, with none too");
        WindJump x = Check.told(ANN);
        x.start(1);
        for (int what : new int[] {-1, 0, 1, 2}) {
            due("harsh", what == 0 || what == 1 ? -2 : -1, x.harsh(false, what));
            due("kind", what == 0 || what == 1 ? -2 : -1, x.harsh(true, what));
        }
    }

    private void calm() {
        check.about("33: CALM in n seconds (0 .. 999): behind how many (0 to n) MEAN wind .. is nearest to 0; the first");
        WindJump x = Check.told("wind = at - 50;");
        x.pause(8);
        // MEAN wind behind i: i - 40
        int[] ns = {0, 1, 39, 40, 41, 999};
        for (int n : ns) {
            due("calm(" + n + ", 0)", Math.min(n, 40), x.calm(n, 0));
            due("calm(" + n + ", 1)", Math.min(n, 40) - 40, x.calm(n, 1));
        }
        x = Check.told("wind = if at < 20 then 9 else if at < 30 then 0 - 4 else if at < 40 then 4 else 0 - 3;");
        due("calm(15, 1)", 9, x.calm(15, 1));
        due("calm(20, 0): 9 9 9 9 -4 by 5 is 6 in 16", 16, x.calm(16, 0));
        // 9 9 -4 -4 -4 by 5 is 1 (in 18), 9 -4 -4 -4 -4 is -1 (in 19)
        due("calm(18, 1)", 1, x.calm(18, 1));
        due("calm(19, 0): of alike ones the first", 18, x.calm(19, 0));
        // -4 -4 -4 4 4 is 0 in 27
        due("calm(26, 0)", 18, x.calm(26, 0));
        due("calm(27, 0)", 27, x.calm(27, 0));
        due("calm(27, 1)", 0, x.calm(27, 1));
        due("calm(999, 0)", 27, x.calm(999, 0));
        x = Check.told("wind = 1015 - at - 7; ");
        due("calm(998, 0)", 998, x.calm(998, 0));
        due("calm(998, 1)", 8, x.calm(998, 1));
        due("calm(999, 0)", 999, x.calm(999, 0));
        due("calm(999, 1)", 7, x.calm(999, 1));
    }

    private void windiest() {
        for (int section = 0; section < 5; section++) {
            check.about("34: the SECTION whose wind is farthest from 0: " + section);
            for (int wind : new int[] {-31, 31}) {
                WindJump x = Check.told("wind = if section < " + section + " then 30 else if section < " + (section + 1) + " then "
                    + (wind < 0 ? "0 - 31" : "31") + " else 0 - 30;");
                due("windiest(0)", section, x.windiest(0));
                due("windiest(99999)", section, x.windiest(99999));
            }
        }
        check.about("34: of alike ones the first");
        due("all 0", 0, new WindJump().windiest(5));
        due("below and above", 1, Check.told("wind = if section < 1 then 3 else if section < 2 then 0 - 9 else 9;").windiest(5));
        due("above and below", 1, Check.told("wind = if section < 1 then 3 else if section < 2 then 9 else 0 - 9;").windiest(5));
        due("GUSTS too", 1, Check.told("gusts 30; wind = if section < 1 then 99 else if section < 2 then 120 else 0;")
            .windiest(gustier()));
    }

    /** A second in which the GUST of SECTION 1 is more than that of SECTION 0. */
    private static int gustier() {
        int second = 0;
        while (Lot.of(61, 0, 8 * second + 1) <= Lot.of(61, 0, 8 * second)) {
            second++;
        }
        return second;
    }

    private void progress() {
        check.about("35: how much longer his JUMP in round 2 was than in round 1");
        WindJump x = Check.told("far = 900 + bar * 7 - weight; waits 0 1; second 2; man a 50 200 0 0; man b 60 200 0 0; man c 70 200 0 0;");
        due("none", NO, x.progress(0));
        x.start(3);
        due("one", NO, x.progress(0));
        due("one", NO, x.progress(1));
        x.gate(23);
        x.start(1);
        due("longer", 21, x.progress(1));
        due("one", NO, x.progress(0));
        x.gate(19);
        x.start(1);
        due("shorter", -7, x.progress(0));
        due("not in round 2", NO, x.progress(2));
        x.undo();
        due("undone", NO, x.progress(0));
        x.gate(20);
        x.start(1);
        due("as long", 0, x.progress(0));
    }

    private void himself() {
        check.about("36: the MAN whose JUMP was longest against what it would have been, LATE 0 (less is worse)");
        String text = "waits 0 10; seed 2; far = 800 + weight + gust * 3 + late * (1 + white + gust) + bar; snow 1; wind = at / 8; parts 1 0 0 0 0; second 3;"
            + "man a 50 200 9 0; man b 60 200 9 0; man c 70 200 9 0;";
        WindJump x = Check.told(text);
        due("nobody has started", -2, x.himself(0));
        due("nobody has started", -2, x.himself(2));
        int bestMan = -2;
        int best = -2;
        int bestRound = -2;
        for (int n = 1; n <= 6; n++) {
            x.gate(20 + n);
            x.start(1);
            bestMan = -2;
            for (int man = 0; man < 3; man++) {
                for (int round = 1; round <= 2; round++) {
                    int late = x.jump(man, round, 3);
                    int more = late * (1 + x.jump(man, round, 7) + x.jump(man, round, 4) / 8);
                    if (late != NO && (bestMan == -2 || more > best)) {
                        bestMan = man;
                        best = more;
                        bestRound = round;
                    }
                }
            }
            due("who, behind " + n, bestMan, x.himself(0));
            due("the difference, behind " + n, best, x.himself(1));
            due("in which round, behind " + n, bestRound, x.himself(2));
        }
        check.about("36: of alike ones the first MAN, then the first round");
        x = Check.told("man a 50 200 0 0; man b 60 200 0 0; waits 0 1;");
        x.start(1);
        due("a", 0, x.himself(0));
        x.start(3);
        due("a", 0, x.himself(0));
        due("0", 0, x.himself(1));
        due("round 1", 1, x.himself(2));
        check.about("36: longest by 1");
        for (int seed = 0; seed < 40; seed++) {
            x = Check.told("man a 50 200 1 0; man b 60 200 1 0; waits 0 10; second 1; far = 900 + late; seed " + seed + ";");
            x.start(2);
            int a = Lot.of(3, seed, 100000) - 1;
            int b = Lot.of(3, seed, 100010) - 1;
            due("who of " + a + " and " + b, b > a ? 1 : 0, x.himself(0));
            due("the difference", Math.max(a, b), x.himself(1));
        }
        check.about("36: in round 2, where the first MAN is not");
        for (int seed = 0; seed < 40; seed++) {
            x = Check.told("man a 50 200 0 0; man b 60 200 9 0; waits 0 10; second 1; far = 500 + weight * 10 + late; seed " + seed + ";");
            x.start(3);
            int one = Lot.of(19, seed, 100010) - 9;
            int other = Lot.of(19, seed, 100020) - 9;
            int most = Math.max(0, Math.max(one, other));
            due("who of 0, " + one + ", " + other, most > 0 ? 1 : 0, x.himself(0));
            due("the difference", most, x.himself(1));
            due("in which round", most > 0 && other > one ? 2 : 1, x.himself(2));
        }
        check.about("36: (less is worse): below 0");
        x = Check.told("man a 50 200 9 0; waits 0 1; far = 900 - late * late; seed 1;");
        x.start(1);
        int late = Lot.of(19, 1, 100000) - 9;
        due("below 0", -late * late, x.himself(1));
        due("who", 0, x.himself(0));
    }

    private void told() {
        check.about("37: how LONG a JUMP of a MAN was, let go in a second (0 .. 9999); its number, from 0 on; 20 at most");
        WindJump x = Check.told(ANN + "man b 50 200 0 0; far = 9999;");
        int[][] edges = {{0, 0}, {0, 9999}, {9999, 0}, {9999, 9999}, {1, 1}, {9998, 9998}};
        for (int n = 0; n < 20; n++) {
            due("tell", n, x.tell(n % 2, edges[n % 6][0], edges[n % 6][1]));
            due("TOLD", n + 1, x.count(10));
        }
        due("a 21st", -1, x.tell(0, 0, 0));
        due("TOLD", 20, x.count(10));
        check.about("37: in a second of 9999 it is the wind of 9999 .. 10003");
        x = Check.told(ANN + "parts 0 0 0 0 1; wind = at - 9990; far = 500 + gust;");
        x.tell(0, 9999, 513);
        due("slips", 19, x.slips(0, 1, -1));
        x.tell(0, 9998, 513);
        due("slips", 0, x.slips(0, 2, -1));
        check.about("38: All that was TOLD is forgotten: how many there were");
        due("forget", 2, x.forget());
        due("TOLD", 0, x.count(10));
        due("slips", 19, x.slips(0, 0, -1));
        due("KNOWN by 1", -1, x.slips(0, 1, -1));
        due("forget", 0, x.forget());
        due("tell", 0, x.tell(0, 9999, 512));
        due("slips", 0, x.slips(0, 1, -1));
    }

    private void slips() {
        check.about("39: how LATE (-9 .. 9) he may have been in all that is KNOWN of him, each time as much");
        WindJump x = Check.told("man a 50 200 0 0; man b 60 210 0 0; snow 50; far = 500 + (late + 9) / 4 * 10 + gust - white - bar * 30 + weight;"
            + "wind = at; parts 1 0 0 0 0; waits 0 1;");
        x.start(1);
        x.gate(33);
        x.pause(7);
        // (late + 9) / 4 is 0 of -9 .. -6, 1 of -5 .. -2, 2 of -1 .. 2, 3 of 3 .. 6, 4 of 7 .. 9
        int[] from = {-9, -5, -1, 3, 7};
        int[] size = {4, 4, 4, 4, 3};
        for (int step = 0; step < 5; step++) {
            check.about("39: at the GATE of the text, nobody having started ahead: " + step);
            due("tell", 0, x.tell(0, 20, 570 + 10 * step));
            due("how many", size[step], x.slips(0, 1, -1));
            for (int i = 0; i < size[step]; i++) {
                due("the " + i + "th, the least first", from[step] + i + 9, x.slips(0, 1, i));
            }
            due("not so many", -1, x.slips(0, 1, size[step]));
            due("of b nothing is KNOWN", 19, x.slips(1, 1, -1));
            due("KNOWN by 0", 19, x.slips(0, 0, -1));
            for (int i = 0; i < 19; i++) {
                due("the " + i + "th", i, x.slips(0, 0, i));
            }
            x.forget();
        }
        check.about("39: KNOWN by k: the first k, of him");
        x.tell(1, 20, 580);
        x.tell(0, 20, 580);
        x.tell(0, 21, 581);
        x.tell(0, 21, 582);
        x.tell(1, 30, 590);
        int[] ofA = {19, 19, 4, 4, 0, 0};
        int[] ofB = {19, 4, 4, 4, 4, 4};
        for (int k = 0; k <= 5; k++) {
            due("a KNOWN by " + k, ofA[k], x.slips(0, k, -1));
            due("b KNOWN by " + k, ofB[k], x.slips(1, k, -1));
            due("b's least", 0, x.slips(1, k, 0));
        }
        due("KNOWN by 6", -1, x.slips(0, 6, -1));
        due("not so many", -1, x.slips(0, 5, 0));
        check.about("39: KNOWN by 20");
        x = Check.told(ANN + "far = 500 + late;");
        for (int n = 0; n < 20; n++) {
            x.tell(0, n, n < 19 ? 509 : 491);
        }
        due("by 19", 1, x.slips(0, 19, -1));
        due("by 19", 18, x.slips(0, 19, 0));
        due("by 20", 0, x.slips(0, 20, -1));
        due("by 21", -1, x.slips(0, 21, -1));
        x.forget();
        x.tell(0, 0, 491);
        due("the least", 0, x.slips(0, 1, 0));
    }

    private void slots() {
        for (int slot = 0; slot < 3; slot++) {
            check.about("40, 41: SLOT " + slot);
            WindJump x = RefusedTest.scene();
            due("hold", true, x.hold(slot));
            due("SLOTS", slot == 1 ? 1 : 2, x.count(11));
            due("hold again", true, x.hold(slot));
            due("SLOTS", slot == 1 ? 1 : 2, x.count(11));
            due("things that can be undone stay", 4, x.count(9));
            x.start(16);
            x.gate(1);
            x.pause(77);
            x.tell(3, 3, 3);
            due("back", 4, x.back(10));
            due("restore", true, x.restore(slot));
            due("what is TOLD stays", 3, x.count(10));
            due("the tape stays", 4, x.count(8));
            due("place stays", 7, x.place());
            due("undo", false, x.undo());
            x.forget();
            x.tell(0, 0, 944);
            x.tell(2, 3, 900);
            Check.feed(x, " 777 888 9");
            WindJump y = RefusedTest.scene();
            y.hold(slot);
            while (y.count(9) > 0) {
                y.undo();
            }
            due("restore", true, y.restore(slot));
            check.due("all goes on", Seen.of(y), Seen.of(x));
        }
        check.about("41: It goes on from what a SLOT holds (that stays there)");
        WindJump x = Check.told(ANN + "waits 0 5;");
        x.pause(3);
        x.hold(0);
        x.start(1);
        x.hold(1);
        x.start(1);
        x.hold(2);
        int[] seconds = {3, 8, 13};
        for (int n = 0; n < 9; n++) {
            int slot = n * 2 % 3;
            due("restore", true, x.restore(slot));
            due("second", seconds[slot], x.now(0));
            due("round", slot + 1, x.now(1));
            due("points", 600 * slot, x.points(0));
            due("SLOTS", 3, x.count(11));
            x.pause(100 + n);
        }
        due("pause is undone", true, x.undo());
        due("second", seconds[8 * 2 % 3], x.now(0));
        check.about("17: undo leaves SLOTS as they are");
        x.pause(1);
        x.hold(0);
        due("undo", true, x.undo());
        due("restore", true, x.restore(0));
        due("second", seconds[8 * 2 % 3] + 1, x.now(0));
        check.about("4: a text is in place of the one ahead: SLOTS hold nothing");
        due("read", 0, x.read());
        for (int slot = 0; slot < 3; slot++) {
            due("restore", false, x.restore(slot));
        }
    }

    private void counts() {
        check.about("42: JUMPS that were beyond SAFE (all rounds); the longest JUMP that was (0 without)");
        WindJump x = Check.told("hill 900 950 20; far = 900 + weight; waits 0 1; man a 49 200 0 0; man b 50 200 0 0; man c 51 200 0 0; second 2;");
        int[] beyond = {0, 0, 0, 1, 1, 2};
        int[] longest = {0, 949, 950, 951, 951, 951};
        for (int n = 0; n <= 5; n++) {
            due("beyond SAFE behind " + n, beyond[n], x.count(7));
            due("the longest behind " + n, longest[n], x.count(12));
            due("start", n < 5 ? 1 : -1, x.start(1));
        }
        for (int n = 4; n >= 0; n--) {
            due("undo", true, x.undo());
            due("beyond SAFE", beyond[n], x.count(7));
            due("the longest", longest[n], x.count(12));
        }
        check.about("42: the longest of each round and MAN");
        x = Check.told("far = 900 + bar; waits 0 1; man a 49 200 0 0; man b 50 200 0 0;");
        x.start(3);
        x.gate(30);
        x.start(1);
        due("in round 2", 910, x.count(12));
        x = Check.told("far = 900 + weight + bar * 10; waits 0 1; man a 49 200 0 0; man b 50 200 0 0; man c 51 200 0 0; second 1;");
        x.start(3);
        x.gate(30);
        x.start(1);
        due("c's in round 2", 1051, x.count(12));
        due("0 LONG", 0, longestOf(Check.told(ANN + "far = 0;")));
        check.about("42: bytes, things, TOLD ones, SLOTS");
        x = RefusedTest.scene();
        int[] counts = {4, 4, 900, 1000, 20, 2, 2, 0, 14, 4, 2, 1, x.count(12)};
        for (int what = 0; what <= 12; what++) {
            due("count(" + what + ")", counts[what], x.count(what));
        }
    }

    /** Calls of the second MAN, who has another WEIGHT, SKI and LAND than the first one. */
    private void ofOneMan() {
        // LENGTH of a: 1000 - 12 * wind - 50 * late, of b: 1820 + 8 * wind - 70 * late; b has 30 more of STYLE
        WindJump x = Check.told("hill 900 1000 10; man a 50 200 0 1; man b 70 260 0 2; judge j 0 2; style = 100 + home * 30 + late * 2;"
            + "far = weight * ski / 10 + gust * (weight - 62) - late * weight - white * weight + bar * weight; snow 1; waits 3 60;"
            + "wind = at; parts 1 0 0 0 0; gives = gust * 3; gate 20 0;");
        check.about("19, 28: of one MAN and the other: in 0 .. 3 the wind is that");
        int[][] waits = {{0, 1000, 0, 806}, {3, 1844, 3, 600 + 944 + 130 + 15}};
        int[] spreads = {36, 24};
        for (int man = 0; man < 2; man++) {
            for (int what = 0; what < 4; what++) {
                due("wait(" + man + ", " + what + ")", waits[man][what], x.wait(man, what));
            }
            due("spread(" + man + ")", spreads[man], x.spread(man));
        }
        x.pause(5);
        check.about("18, 20 to 23, 29: of one MAN and the other: the wind is 5, MEAN wind 7");
        int[] lengths = {940, 1860};
        int[] weights = {50, 70};
        int[] styles = {100, 130};
        int[] gains = {-60 + 21, 40 + 21};
        int[] pounds = {720 - 1000 - 50, 1440 - 1820 - 50};
        for (int man = 0; man < 2; man++) {
            int points = 600 + lengths[man] - 900 + styles[man] + 21;
            due("LENGTH", lengths[man] - 2 * weights[man], x.attempt(man, 0, 2, 0));
            due("POINTS", points - 2 * weights[man] + 4, x.attempt(man, 0, 2, 1));
            due("STYLE", styles[man] + 4, x.attempt(man, 0, 2, 2));
            due("cost", 3 * weights[man], x.cost(man, 3, false));
            due("cost of POINTS", 3 * weights[man] - 6, x.cost(man, 3, true));
            due("pound", pounds[man], x.pound(man, 10, 20));
            due("gain", gains[man], x.gain(man));
            due("number", weights[man], x.number(man));
            due("atGate", lengths[man] + 2 * weights[man], x.atGate(man, 22, false));
            due("atGate", points + 2 * weights[man], x.atGate(man, 22, true));
        }
        check.about("27: of one MAN and the other: STYLE of a is 100, of b 130; without POINTS yet");
        due("needs(0)", 0, x.needs(0));
        due("needs(1)", 900 - 729, x.needs(1));
    }

    /** All calls that look at MEN and JUDGES, of 8 MEN and 7 JUDGES. */
    private void fullest() {
        check.about("I: MEN, 8 at most, JUDGES, 7 at most: all of them");
        StringBuilder text = new StringBuilder("far = 900 + weight; style = 100 + lean; waits 0 1; snow 3; hill 900 955 10;");
        for (int i = 0; i < 8; i++) {
            text.append("man m").append((char) ('a' + i)).append(" 5").append(i).append(" 200 0 0;");
        }
        for (int i = 0; i < 7; i++) {
            text.append("judge j").append((char) ('a' + i)).append(' ').append(i).append(" 0;");
        }
        WindJump x = Check.told(text.toString());
        due("start", 8, x.start(8));
        for (int man = 0; man < 8; man++) {
            due("points", 600 + 50 + man + 515, x.points(man));
            due("rank", 7 - man, x.rank(man));
            due("ranked", 7 - man, x.ranked(man));
            due("lead", man == 7 ? 1 : man - 7, x.lead(man));
            due("number", 0, x.number(man));
            due("crown", man == 7 ? 10 : 0, x.crown(man, 10));
            due("reversed", 7 - man, x.reversed(man));
            due("needs: a LENGTH of 0 is worth 215", 0, x.needs(man));
            for (int judge = 0; judge < 7; judge++) {
                due("without", 7 - man, x.without(man, judge));
                due("mark", 100 + judge, x.mark(man, 1, judge));
            }
        }
        due("gates: two are beyond SAFE at each", -2, x.gates(0));
        due("gates: together", 950 * 8 + 28, Check.told(text + "hill 900 1000 10;").gates(1));
        due("beyond SAFE", 2, x.count(7));
        due("harsh", 0, x.harsh(false, 0));
        due("least", 800, x.harsh(false, 1));
        due("kind", 6, x.harsh(true, 0));
        due("most", 848, x.harsh(true, 1));
        due("start", 8, x.start(8));
        for (int man = 0; man < 8; man++) {
            due("ahead in round 2", man, x.jump(man, 2, 7));
            due("progress", 0, x.progress(man));
            for (int judge = 0; judge < 7; judge++) {
                due("mark", 100 + judge, x.mark(man, 2, judge));
            }
        }
        check.about("25: 16 STARTS, 8 of them");
        due("the last one wins", 1, Check.told(text.toString()).crown(7, 1));
        x = Check.told(text.toString());
        x.start(8);
        due("the last one wins", 1, x.crown(7, 1));
        check.about("31: the last of 8 first: who starts first has least snow");
        for (int man = 0; man < 8; man++) {
            due("reversed", 7 - man, Check.told(text + "far = 900 - white; second 1;").reversed(man));
            due("reversed, the lightest is best", man, Check.told(text + "far = 1500 - weight * 10 - white;").reversed(man));
        }
        check.about("27: with 7 JUDGES");
        x = Check.told("hill 900 1000 10; far = 900; style = 200; waits 0 1; man a 50 200 0 0; man b 50 200 0 0;"
            + text.substring(text.indexOf("judge ja")));
        x.letGo(0);
        due("a has", 1600, x.points(0));
        due("b: 1601", 901, x.needs(1));
    }

    /** What is kept of 8 MEN and 7 JUDGES: the last of all of it too. */
    private void fullestKept() {
        StringBuilder text = new StringBuilder("far = 900 + weight + bar; style = length / 10 + lean; waits 0 1;");
        for (int i = 0; i < 8; i++) {
            text.append("man m").append((char) ('a' + i)).append(" 5").append(i).append(" 200 0 0;");
        }
        for (int i = 0; i < 7; i++) {
            text.append("judge j").append((char) ('a' + i)).append(' ').append(i).append(" 0;");
        }
        check.about("17: the order of round 2 comes back");
        WindJump x = Check.told(text.toString());
        x.start(8);
        x.start(8);
        due("undo", true, x.undo());
        for (int n = 0; n < 8; n++) {
            due("next", n, x.now(3));
            x.start(1);
        }
        for (int n = 7; n >= 0; n--) {
            due("undo", true, x.undo());
            due("next", n, x.now(3));
        }
        x = Check.told(text + "far = 1000 - weight;");
        x.start(8);
        due("the worst", 7, x.now(3));
        x.hold(0);
        due("undo", true, x.undo());
        for (int n = 0; n < 8; n++) {
            due("next in round 1", n, x.now(3));
            x.start(1);
        }
        due("restore", true, x.restore(0));
        for (int n = 0; n < 8; n++) {
            due("next in round 2", 7 - n, x.now(3));
            x.start(1);
        }
        check.about("41: POINTS and marks of the last one come back");
        x = Check.told(text.toString());
        x.start(8);
        x.start(8);
        int points = x.points(7);
        x.hold(0);
        due("undo", true, x.undo());
        x.hold(1);
        int half = x.points(7);
        x.gate(40);
        x.start(8);
        due("mark", 97 + 6, x.mark(7, 2, 6));
        due("restore", true, x.restore(0));
        due("mark", 95 + 6, x.mark(7, 2, 6));
        due("points", points, x.points(7));
        due("restore", true, x.restore(1));
        due("points", half, x.points(7));
        due("no mark", NO, x.mark(7, 2, 6));
        due("mark of round 1", 95 + 6, x.mark(7, 1, 6));
        for (int n = 0; n < 8; n++) {
            due("next", n, x.now(3));
            x.start(1);
        }
    }

    private static int longestOf(WindJump x) {
        x.start(1);
        return x.count(12);
    }
}
