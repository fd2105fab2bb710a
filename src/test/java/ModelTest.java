import java.util.List;
import java.util.Random;

/** Random texts and calls: each answer of WindJump must be the Model's. The seeds are fixed: each run is the same. */
public final class ModelTest {
    private static final String[] VARS = Model.VARS.split("\\|");

    private final Check check;
    private final Random random;
    private final WindJump x = new WindJump();
    private final Model model = new Model();
    private int calls;

    private ModelTest(Check check, long seed) {
        this.check = check;
        this.random = new Random(seed);
        check.about("seed " + seed);
    }

    public static void main(String[] args) {
        int runs = args.length > 0 ? Integer.parseInt(args[0]) : 250;
        long from = args.length > 1 ? Long.parseLong(args[1]) : 1;
        Check check = new Check();
        for (long seed = from; seed < from + runs && check.isFine(); seed++) {
            new ModelTest(check, seed).run();
        }
        check.end("ModelTest");
    }

    private void run() {
        while (calls < 470 && check.isFine()) {
            if (calls == 0 || random.nextInt(90) == 0) {
                newText();
            }
            call();
        }
    }

    // ---- texts

    private int upTo(int n) {
        return random.nextInt(n + 1);
    }

    private boolean chance(int percent) {
        return random.nextInt(100) < percent;
    }

    private void newText() {
        String text = text();
        for (int n = chance(25) ? 1 + upTo(2) : 0; n > 0; n--) {
            text = spoiled(text);
        }
        if (text.length() > 2000) {
            text = text.substring(0, 2000);
        }
        int odd = (20 - text.length() % 20) % 20;
        if (text.length() + odd + model.tape.length() > 2000) {
            int all = model.tape.length();
            due("back", model.back(all), x.back(all));
            return;
        }
        for (int[] w : Check.words(text)) {
            due("feed", model.feed(w), x.feed(w[0], w[1], w[2], w[3], w[4]));
        }
        due("back", model.back(odd), x.back(odd));
        due("read " + text, model.read(), x.read());
        due("place " + text, model.place, x.place());
    }

    private String text() {
        StringBuilder out = new StringBuilder();
        int men = chance(5) ? 0 : 1 + upTo(7);
        int judges = upTo(7);
        if (chance(1)) {
            men = 9;
        }
        if (chance(1)) {
            judges = 8;
        }
        for (int m = 0; m < men; m++) {
            out.append(tell("man m" + (char) ('a' + m), 30 + upTo(90), 100 + upTo(200), chance(60) ? upTo(9) : 0, upTo(3)));
        }
        for (int j = 0; j < judges; j++) {
            out.append(tell("judge j" + (char) ('a' + j) + (chance(40) ? " -" : ""), upTo(9), upTo(3)));
        }
        String[] others = {
            tell("hill", 700 + upTo(400), 800 + upTo(300), upTo(30)), tell("parts", upTo(9), upTo(9), upTo(9), upTo(9), upTo(2)),
            tell("snow", upTo(9)), tell("gusts", upTo(15)), tell("waits", upTo(14), 1 + upTo(60)),
            tell("gate", upTo(40), upTo(30)), tell("second", 1 + upTo(7)), tell("seed", upTo(9999)),
            "wind = " + windLaw() + ";", "far = " + farLaw() + ";", "gives = " + givesLaw() + ";",
            "style = " + styleLaw() + ";", "goes = " + goesLaw() + ";"};
        for (String other : others) {
            if (chance(75)) {
                out.insert(chance(50) ? 0 : out.length(), other);
            }
        }
        return out.toString();
    }

    private String tell(String words, int... numbers) {
        StringBuilder out = new StringBuilder(words);
        for (int n : numbers) {
            out.append(chance(5) ? "\n" : " ").append(n);
        }
        return out.append(";").toString();
    }

    private String windLaw() {
        return chance(20) ? law() : upTo(30) + " + section * " + upTo(5) + " - at * " + upTo(9) + " / " + (1 + upTo(40))
            + (chance(40) ? "+ (at - at / 7 * 7) * " + upTo(6) : "");
    }

    private String farLaw() {
        return chance(20) ? law() : (700 + upTo(300)) + " + gust * " + upTo(5) + " + bar * " + upTo(15) + " - late * late * "
            + upTo(5) + " / 3 + late * " + upTo(2) + " - white * " + upTo(3) + " - weight / " + (1 + upTo(9)) + " + ski / "
            + (1 + upTo(30));
    }

    private String givesLaw() {
        return chance(20) ? law() : "0 - gust * " + upTo(9);
    }

    private String styleLaw() {
        return chance(20) ? law() : "if late < " + upTo(3) + " then " + (150 + upTo(40)) + " + lean * " + upTo(4) + " + home * "
            + upTo(9) + " else " + (120 + upTo(60)) + " - late * late + (length - 900) / " + (1 + upTo(20)) + " + gust / 3 + lean";
    }

    private String goesLaw() {
        return chance(20) ? law() : "gust - " + upTo(20) + (chance(50) ? " + at * " + upTo(3) : "") + " - weight / 30";
    }

    private String law() {
        StringBuilder out = new StringBuilder();
        for (int ifs = chance(3) ? 5 : upTo(10) / 3; ifs > 0; ifs--) {
            out.append("if ").append(sum(2)).append('<').append(sum(2)).append(" then ").append(sum(2)).append(" else ");
        }
        return out.append(sum(chance(4) ? 8 : 3)).toString();
    }

    private String sum(int deep) {
        StringBuilder out = new StringBuilder(product(deep));
        for (int n = upTo(4) / 2; n > 0; n--) {
            out.append(chance(50) ? " + " : " - ").append(product(deep));
        }
        return out.toString();
    }

    private String product(int deep) {
        StringBuilder out = new StringBuilder(unit(deep));
        for (int n = upTo(4) / 3; n > 0; n--) {
            out.append(chance(50) ? "*" : "/").append(unit(deep));
        }
        return out.toString();
    }

    private String unit(int deep) {
        if (deep > 0 && chance(deep > 3 ? 90 : 25)) {
            return "(" + sum(deep - 1) + ")";
        }
        return chance(45) ? VARS[random.nextInt(VARS.length)] : "" + (chance(70) ? upTo(12) : upTo(9999));
    }

    private String spoiled(String text) {
        if (text.isEmpty()) {
            return ";";
        }
        int i = random.nextInt(text.length());
        String[] odd = {";", "=", "(", ")", "9999", "12345", "if ", " man ", "ma", "#", " abcdefgh ", " abcdefghi ", "\u0000", "\u00e9",
            " hill", "\t", "-", "0", "at", "\u000b", "A", " judge ja 0 0;", " man ma 50 200 1 1;", "second 9;", "second 0;"};
        switch (upTo(5)) {
            case 0: return text.substring(0, i);
            case 1: return text.substring(0, i) + text.substring(i + 1);
            case 2: return text.substring(0, i) + odd[random.nextInt(odd.length)] + text.substring(i);
            case 3: return text + odd[random.nextInt(odd.length)];
            case 4: return text + "snow 1;".repeat(upTo(140));
            default:
                int semicolon = text.indexOf(';', i);
                return semicolon < 0 ? text : text.substring(0, semicolon + 1) + odd[random.nextInt(odd.length)]
                    + text.substring(semicolon + 1);
        }
    }

    // ---- calls

    private void due(String call, long want, long got) {
        calls++;
        check.due("call " + calls + " " + call, want, got);
    }

    private void due(String call, boolean want, boolean got) {
        due(call, want ? 1 : 0, got ? 1 : 0);
    }

    private int man() {
        return chance(90) ? upTo(Math.max(0, model.men.size() - 1)) : upTo(11) - 2;
    }

    private int within(int low, int high) {
        int edge = upTo(29);
        return edge == 0 ? low - 1 : edge == 1 ? high + 1 : edge == 2 ? low : edge == 3 ? high
            : edge == 4 && chance(20) ? random.nextInt() : low + random.nextInt(high - low + 1);
    }

    private void call() {
        int m = man();
        int a = within(0, 4);
        boolean kind = chance(50);
        switch (upTo(47)) {
            case 0: a = within(0, 6); due("now " + a, model.now(a), x.now(a)); break;
            case 1: int s = within(0, chance(50) ? 99 : 99999); due("wind", model.wind(a, s), x.wind(a, s)); break;
            case 2: case 3: a = within(0, 7); int r = within(1, 2);
                due("jump " + m + " " + r + " " + a, model.jump(m, r, a), x.jump(m, r, a)); break;
            case 4: a = within(0, 6); r = within(1, 2); due("mark", model.mark(m, r, a), x.mark(m, r, a)); break;
            case 5: due("points " + m, model.points(m), x.points(m)); break;
            case 6: due("rank " + m, model.rank(m), x.rank(m)); break;
            case 7: due("ranked " + m, model.ranked(m), x.ranked(m)); break;
            case 8: case 9: a = chance(70) ? 1 + upTo(2) : within(1, 16); due("start " + a, model.start(a), x.start(a)); break;
            case 10: case 11: a = within(0, model.waits()); due("letGo " + a, model.letGo(a), x.letGo(a)); break;
            case 12: a = within(0, 40); due("gate " + a, model.gate(a), x.gate(a)); break;
            case 13: a = chance(80) ? within(1, 20) : within(1, 999); due("pause " + a, model.pause(a), x.pause(a)); break;
            case 14: case 15: due("undo", model.undo(), x.undo()); break;
            case 16: case 17: int late = within(-9, 9); int n = within(0, chance(70) ? 20 : 999); a = within(0, 2);
                due("attempt " + m + " " + n + " " + late + " " + a, model.attempt(m, n, late, a), x.attempt(m, n, late, a)); break;
            case 18: a = within(0, 3); due("wait " + m + " " + a, model.wait(m, a), x.wait(m, a)); break;
            case 19: late = within(-9, 9); due("cost", model.cost(m, late, kind), x.cost(m, late, kind)); break;
            case 20: int w = within(0, 30); int k = within(0, 60); due("pound", model.pound(m, w, k), x.pound(m, w, k)); break;
            case 21: due("gain " + m, model.gain(m), x.gain(m)); break;
            case 22: due("number " + m, model.number(m), x.number(m)); break;
            case 23: a = within(0, 1); due("gates " + a, model.gates(a), x.gates(a)); break;
            case 24: case 25: a = within(1, 10); due("crown " + m + " " + a, model.crown(m, a), x.crown(m, a)); break;
            case 26: case 27: a = within(0, 6); due("without " + m + " " + a, model.without(m, a), x.without(m, a)); break;
            case 28: due("needs " + m, model.needs(m), x.needs(m)); break;
            case 29: due("spread " + m, model.spread(m), x.spread(m)); break;
            case 30: a = within(0, 40); due("atGate", model.atGate(m, a, kind), x.atGate(m, a, kind)); break;
            case 31: due("lead " + m, model.lead(m), x.lead(m)); break;
            case 32: due("reversed " + m, model.reversed(m), x.reversed(m)); break;
            case 33: a = within(0, 1); due("harsh " + kind + a, model.harsh(kind, a), x.harsh(kind, a)); break;
            case 34: n = chance(80) ? within(0, 60) : within(0, 999); a = within(0, 1);
                due("calm " + n + " " + a, model.calm(n, a), x.calm(n, a)); break;
            case 35: s = within(0, chance(50) ? 99 : 99999); due("windiest", model.windiest(s), x.windiest(s)); break;
            case 36: due("progress " + m, model.progress(m), x.progress(m)); break;
            case 37: a = within(0, 2); due("himself " + a, model.himself(a), x.himself(a)); break;
            case 38: case 39: tell(m); break;
            case 40: if (chance(15)) { due("forget", model.forget(), x.forget()); } break;
            case 41: case 42: k = within(0, model.told.size()); a = within(-1, 6);
                due("slips " + m + " " + k + " " + a, model.slips(m, k, a), x.slips(m, k, a)); break;
            case 43: a = within(0, 2); due("hold " + a, model.hold(a), x.hold(a)); break;
            case 44: a = within(0, 2); if (chance(40)) { due("restore " + a, model.restore(a), x.restore(a)); } break;
            case 45: a = within(0, 12); due("count " + a, model.count(a), x.count(a)); break;
            case 46: feedAtRandom(); break;
            default: lookAtAll(); break;
        }
    }

    /** Mostly what a JUMP of his, so LATE, would be: else nothing told would ever fit. */
    private void tell(int m) {
        int second = within(0, chance(60) ? 30 : 9999);
        int length = within(0, 9999);
        if (chance(85) && model.man(m) && second >= 0 && second <= 9999) {
            length = model.fly(model.seed(), m, 1, second, (m + 1) % 4 - 2, model.gateTold(), 0, false).length();
        }
        due("tell " + m + " " + second + " " + length, model.tell(m, second, length), x.tell(m, second, length));
    }

    private void feedAtRandom() {
        if (chance(50)) {
            int[] w = Check.words("wind = 1; snow 2;   ").get(0);
            due("feed", model.feed(w), x.feed(w[0], w[1], w[2], w[3], w[4]));
        } else {
            int n = within(0, model.tape.length());
            due("back " + n, model.back(n), x.back(n));
        }
    }

    /** All that can be seen of what goes on. */
    private void lookAtAll() {
        for (int what : List.of(0, 1, 2, 3, 4)) {
            due("now " + what, model.now(what), x.now(what));
        }
        for (int what : List.of(7, 9, 12)) {
            due("count " + what, model.count(what), x.count(what));
        }
        for (int m = 0; m < model.men.size(); m++) {
            due("rank " + m, model.rank(m), x.rank(m));
        }
    }
}
