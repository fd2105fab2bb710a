import java.util.ArrayList;
import java.util.HashMap;
import java.util.List;
import java.util.Map;
import java.util.TreeMap;
import java.util.regex.Matcher;
import java.util.regex.Pattern;

/**
 * The document once more, written in another way and with the whole Java library: answers are worked out anew from
 * plain lists and maps each time, so that ModelTest can hold WindJump against it.
 */
final class Model {
    interface Expr {
        int of(Map<String, Integer> vars);
    }

    /** A division by 0 in a LAW. */
    static final class Broken extends RuntimeException {
    }

    static final class Fault extends RuntimeException {
        final int code;
        final int place;

        Fault(int code, int place) {
            this.code = code;
            this.place = place;
        }
    }

    record Tok(String kind, String text, int place) {
    }

    record Man(int weight, int ski, int slip, int land) {
    }

    record Judge(int lean, int land) {
    }

    record Jump(int man, int round, int length, int points, int style, int late, int second, int gate, int mean,
                int ahead, List<Integer> marks) {
    }

    record State(int second, int round, int gate, int started, List<Integer> order, List<Jump> jumps) {
    }

    record Told(int man, int second, int length) {
    }

    static final String VARS = "at|section|gust|weight|ski|late|white|bar|length|lean|home";
    static final Pattern WORD = Pattern.compile("hill|wind|far|gives|style|goes|parts|man|judge|snow|gusts|waits|gate|"
        + "second|seed|if|then|else|" + VARS);
    static final Pattern PIECE = Pattern.compile("[\\t\\n\\r ]*(?:([a-z]+)|([0-9]+)|([;=+\\-*/<()])|(.)|$)", Pattern.DOTALL);

    final StringBuilder tape = new StringBuilder();
    int place = -1;

    // what the text tells
    Map<String, int[]> numbers;
    Map<String, Expr> laws;
    List<Man> men;
    List<Judge> judges;
    // what goes on
    State state;
    final List<State> before = new ArrayList<>();
    final State[] slots = new State[3];
    final List<Told> told = new ArrayList<>();

    // the parser's
    private List<Tok> toks;
    private int at;
    private TreeMap<Integer, Integer> later;

    Model() {
        parse("");
        begin();
    }

    // ---- the tape

    int feed(int... words) {
        if (tape.length() + 20 > 2000) {
            return -1;
        }
        for (int w : words) {
            tape.append((char) (w >>> 24)).append((char) (w >> 16 & 255)).append((char) (w >> 8 & 255)).append((char) (w & 255));
        }
        return tape.length();
    }

    int back(int n) {
        if (n < 0 || n > tape.length()) {
            return -1;
        }
        tape.setLength(tape.length() - n);
        return tape.length();
    }

    int read() {
        Map<String, int[]> oldNumbers = numbers;
        Map<String, Expr> oldLaws = laws;
        List<Man> oldMen = men;
        List<Judge> oldJudges = judges;
        String text = tape.toString();
        tape.setLength(0);
        try {
            parse(text);
        } catch (Fault fault) {
            numbers = oldNumbers;
            laws = oldLaws;
            men = oldMen;
            judges = oldJudges;
            place = fault.place;
            return fault.code;
        }
        place = -1;
        begin();
        return 0;
    }

    private void begin() {
        List<Integer> order = new ArrayList<>();
        for (int m = 0; m < men.size(); m++) {
            order.add(m);
        }
        state = new State(0, 1, gateTold(), 0, order, List.of());
        before.clear();
        told.clear();
        java.util.Arrays.fill(slots, null);
    }

    private static List<Tok> split(String text) {
        List<Tok> out = new ArrayList<>();
        Matcher m = PIECE.matcher(text);
        int from = 0;
        while (true) {
            m.find(from);
            from = m.end();
            if (m.group(1) != null) {
                String s = m.group(1);
                out.add(new Tok(s.length() > 8 ? "junk" : WORD.matcher(s).matches() ? s : "NAME", s, m.start(1)));
            } else if (m.group(2) != null) {
                out.add(new Tok(m.group(2).length() > 4 ? "junk" : "INT", m.group(2), m.start(2)));
            } else if (m.group(3) != null) {
                out.add(new Tok(m.group(3), m.group(3), m.start(3)));
            } else if (m.group(4) != null) {
                out.add(new Tok("junk", m.group(4), m.start(4)));
            } else {
                out.add(new Tok("end", "", text.length()));
                return out;
            }
        }
    }

    private void parse(String text) {
        toks = split(text);
        at = 0;
        later = new TreeMap<>();
        numbers = new HashMap<>();
        numbers.put("hill", new int[] {900, 1000, 20});
        numbers.put("parts", new int[] {1, 1, 1, 1, 1});
        numbers.put("snow", new int[] {0});
        numbers.put("gusts", new int[] {0});
        numbers.put("waits", new int[] {10, 60});
        numbers.put("gate", new int[] {20, 50});
        numbers.put("second", new int[] {8});
        numbers.put("seed", new int[] {0});
        laws = new HashMap<>();
        laws.put("wind", v -> 0);
        laws.put("far", v -> numbers.get("hill")[0] + 2 * v.get("gust") + 5 * v.get("bar"));
        laws.put("gives", v -> 0);
        laws.put("style", v -> 170);
        laws.put("goes", v -> 1);
        men = new ArrayList<>();
        judges = new ArrayList<>();
        List<String> names = new ArrayList<>();
        while (!is("end")) {
            tell(names);
        }
        if (!later.isEmpty()) {
            throw new Fault(later.firstEntry().getValue(), later.firstKey());
        }
    }

    private boolean is(String kind) {
        return toks.get(at).kind.equals(kind);
    }

    private Tok need(String kind) {
        Tok t = toks.get(at);
        if (!is(kind)) {
            throw new Fault(1, t.place);
        }
        if (at + 1 > 400) {
            throw new Fault(2, t.place);
        }
        at++;
        return t;
    }

    private int number(int low, int high) {
        Tok t = need("INT");
        int n = Integer.parseInt(t.text);
        if (n < low || n > high) {
            later.putIfAbsent(t.place, 5);
        }
        return n;
    }

    private void name(List<String> names) {
        Tok t = need("NAME");
        if (names.contains(t.text)) {
            later.put(t.place, 3);
        }
        names.add(t.text);
    }

    private void tell(List<String> names) {
        Tok t = toks.get(at);
        if (t.kind.equals("man") && men.size() == 8 || t.kind.equals("judge") && judges.size() == 7) {
            throw new Fault(2, t.place);
        }
        int[][] bounds = switch (t.kind) {
            case "hill" -> new int[][] {{100, 2500}, {100, 2500}, {0, 99}};
            case "parts" -> new int[][] {{0, 9}, {0, 9}, {0, 9}, {0, 9}, {0, 9}};
            case "snow" -> new int[][] {{0, 99}};
            case "gusts" -> new int[][] {{0, 30}};
            case "waits" -> new int[][] {{0, 30}, {1, 300}};
            case "gate" -> new int[][] {{0, 40}, {0, 99}};
            case "second" -> new int[][] {{1, 8}};
            case "seed" -> new int[][] {{0, 9999}};
            case "wind", "far", "gives", "style", "goes", "man", "judge" -> null;
            default -> throw new Fault(1, t.place);
        };
        need(t.kind);
        if (bounds != null) {
            int[] row = new int[bounds.length];
            for (int i = 0; i < row.length; i++) {
                row[i] = number(bounds[i][0], bounds[i][1]);
            }
            numbers.put(t.kind, row);
        } else if (t.kind.equals("man")) {
            name(names);
            men.add(new Man(number(30, 120), number(100, 300), number(0, 9), number(0, 9)));
        } else if (t.kind.equals("judge")) {
            name(names);
            int sign = 1;
            if (is("-")) {
                need("-");
                sign = -1;
            }
            judges.add(new Judge(sign * number(0, 9), number(0, 9)));
        } else {
            need("=");
            laws.put(t.kind, law(0));
        }
        need(";");
    }

    private Expr law(int ifs) {
        if (!is("if")) {
            return sum(0);
        }
        if (ifs == 4) {
            throw new Fault(2, toks.get(at).place);
        }
        need("if");
        Expr a = sum(0);
        need("<");
        Expr b = sum(0);
        need("then");
        Expr c = sum(0);
        need("else");
        Expr d = law(ifs + 1);
        return v -> a.of(v) < b.of(v) ? c.of(v) : d.of(v);
    }

    private Expr sum(int depth) {
        Expr e = product(depth);
        while (is("+") || is("-")) {
            Expr a = e;
            boolean plus = need(toks.get(at).kind).text.equals("+");
            Expr b = product(depth);
            e = plus ? v -> a.of(v) + b.of(v) : v -> a.of(v) - b.of(v);
        }
        return e;
    }

    private Expr product(int depth) {
        Expr e = unit(depth);
        while (is("*") || is("/")) {
            Expr a = e;
            boolean times = need(toks.get(at).kind).text.equals("*");
            Expr b = unit(depth);
            e = times ? v -> a.of(v) * b.of(v) : v -> {
                int n = a.of(v);
                int d = b.of(v);
                if (d == 0) {
                    throw new Broken();
                }
                return (int) ((long) n / d);
            };
        }
        return e;
    }

    private Expr unit(int depth) {
        Tok t = toks.get(at);
        if (is("INT")) {
            need("INT");
            int n = Integer.parseInt(t.text);
            return v -> n;
        }
        if (t.kind.matches(VARS)) {
            need(t.kind);
            return v -> v.getOrDefault(t.text, 0);
        }
        if (!is("(")) {
            throw new Fault(1, t.place);
        }
        if (depth == 6) {
            throw new Fault(2, t.place);
        }
        need("(");
        Expr e = sum(depth + 1);
        need(")");
        return e;
    }

    // ---- what the text tells

    int k() {
        return numbers.get("hill")[0];
    }

    int safe() {
        return numbers.get("hill")[1];
    }

    int waits() {
        return numbers.get("waits")[0];
    }

    int gateTold() {
        return numbers.get("gate")[0];
    }

    int seed() {
        return numbers.get("seed")[0];
    }

    boolean man(int m) {
        return m >= 0 && m < men.size();
    }

    boolean judge(int j) {
        return j >= 0 && j < judges.size();
    }

    static boolean in(int v, int low, int high) {
        return v >= low && v <= high;
    }

    int law(String law, Map<String, Integer> vars) {
        try {
            return laws.get(law).of(vars);
        } catch (Broken b) {
            return 0;
        }
    }

    static int hold(int v, int low, int high) {
        return v < low ? low : v > high ? high : v;
    }

    static int lot(int n, int seed, int which) {
        int h = seed;
        for (int it : new int[] {47, which}) {
            h = (h ^ it) * 1103515245 + 12345;
            h = h ^ (h >>> 15);
        }
        return (h >>> 1) % n;
    }

    int windAt(int seed, int section, int second) {
        int gusts = numbers.get("gusts")[0];
        return hold(law("wind", Map.of("at", second, "section", section)), -99, 99)
            + lot(2 * gusts + 1, seed, 8 * second + section) - gusts;
    }

    int mean(int seed, int second) {
        int sum = 0;
        for (int s = 0; s < 5; s++) {
            sum += windAt(seed, s, second + s);
        }
        return sum / 5;
    }

    int trueWind(int seed, int second) {
        int sum = 0;
        int all = 0;
        for (int s = 0; s < 5; s++) {
            sum += numbers.get("parts")[s] * windAt(seed, s, second + s);
            all += numbers.get("parts")[s];
        }
        return all == 0 ? 0 : sum / all;
    }

    int far(int weight, int ski, int wind, int late, int ahead, int gate) {
        return hold(law("far", Map.of("gust", wind, "weight", weight, "ski", ski, "late", late,
            "white", numbers.get("snow")[0] * ahead, "bar", gate - gateTold())), 0, 9999);
    }

    List<Integer> marks(int m, int length, int late, int wind) {
        List<Integer> out = new ArrayList<>();
        for (Judge j : judges) {
            out.add(hold(law("style", Map.of("length", length, "late", late, "gust", wind, "lean", j.lean,
                "home", j.land == men.get(m).land ? 1 : 0)), 0, 200));
        }
        return out;
    }

    static int style(List<Integer> marks) {
        List<Integer> sorted = new ArrayList<>(marks);
        sorted.sort(null);
        if (sorted.size() >= 3) {
            sorted = sorted.subList(1, sorted.size() - 1);
        }
        return sorted.stream().mapToInt(i -> i).sum();
    }

    int pointsOf(int length, int style, int mean, int gate) {
        int p = 600 + numbers.get("hill")[2] * (length - k()) / 10 + style
            + hold(law("gives", Map.of("gust", mean)), -999, 999) + numbers.get("gate")[1] * (gateTold() - gate);
        return p < 0 ? 0 : p;
    }

    /** A JUMP in the wind of a second (or in none: calm). */
    Jump fly(int seed, int m, int round, int second, int late, int gate, int ahead, boolean calm) {
        int wind = calm ? 0 : trueWind(seed, second);
        int mean = calm ? 0 : mean(seed, second);
        int length = far(men.get(m).weight, men.get(m).ski, wind, late, ahead, gate);
        List<Integer> marks = marks(m, length, late, wind);
        int style = style(marks);
        return new Jump(m, round, length, pointsOf(length, style, mean, gate), style, late, second, gate, mean, ahead, marks);
    }

    // ---- what goes on

    static Jump jumpOf(State s, int m, int round) {
        return s.jumps.stream().filter(j -> j.man == m && j.round == round).findFirst().orElse(null);
    }

    static int total(State s, int m) {
        return s.jumps.stream().filter(j -> j.man == m).mapToInt(j -> j.points).sum();
    }

    List<Integer> ranking(List<Integer> totals) {
        List<Integer> out = new ArrayList<>();
        for (int m = 0; m < totals.size(); m++) {
            out.add(m);
        }
        out.sort((a, b) -> totals.get(a).equals(totals.get(b)) ? a - b : totals.get(b) - totals.get(a));
        return out;
    }

    List<Integer> totals(State s) {
        List<Integer> out = new ArrayList<>();
        for (int m = 0; m < men.size(); m++) {
            out.add(total(s, m));
        }
        return out;
    }

    static int next(State s) {
        return s.round <= 2 && s.started < s.order.size() ? s.order.get(s.started) : -2;
    }

    State letGo(State s, int seed, int wait) {
        int m = next(s);
        int second = s.second + wait;
        int slip = men.get(m).slip;
        int late = lot(2 * slip + 1, seed, 100000 + second) - slip;
        List<Jump> jumps = new ArrayList<>(s.jumps);
        jumps.add(fly(seed, m, s.round, second, late, s.gate, s.started, false));
        State n = new State(second + numbers.get("waits")[1], s.round, s.gate, s.started + 1, s.order, jumps);
        if (n.started < n.order.size()) {
            return n;
        }
        List<Integer> order = new ArrayList<>();
        if (s.round == 1) {
            List<Integer> ranking = ranking(totals(n));
            for (int r = Math.min(numbers.get("second")[0], men.size()) - 1; r >= 0; r--) {
                order.add(ranking.get(r));
            }
        }
        return new State(n.second, s.round + 1, n.gate, 0, order, jumps);
    }

    State start(State s, int seed) {
        Man m = men.get(next(s));
        int wait = 0;
        while (wait < waits() && law("goes", Map.of("at", wait, "gust", mean(seed, s.second + wait), "weight", m.weight,
            "ski", m.ski)) <= 0) {
            wait++;
        }
        return letGo(s, seed, wait);
    }

    State startAll(State s, int seed) {
        while (next(s) != -2) {
            s = start(s, seed);
        }
        return s;
    }

    private void done() {
        before.add(state);
        if (before.size() > 40) {
            before.remove(0);
        }
    }

    int now(int what) {
        return switch (what) {
            case 0 -> state.second;
            case 1 -> state.round;
            case 2 -> state.gate;
            case 3 -> next(state);
            case 4 -> state.started;
            case 5 -> mean(seed(), state.second);
            case 6 -> trueWind(seed(), state.second);
            default -> -10000;
        };
    }

    int wind(int section, int second) {
        return in(section, 0, 4) && in(second, 0, 99999) ? windAt(seed(), section, second) : -10000;
    }

    int jump(int m, int round, int what) {
        Jump j = jumpOf(state, m, round);
        if (j == null || !in(what, 0, 7)) {
            return -10000;
        }
        return new int[] {j.length, j.points, j.style, j.late, j.second, j.gate, j.mean, j.ahead}[what];
    }

    int mark(int m, int round, int judge) {
        Jump j = jumpOf(state, m, round);
        return j == null || !judge(judge) ? -10000 : j.marks.get(judge);
    }

    int points(int m) {
        return man(m) ? total(state, m) : -1;
    }

    int rank(int m) {
        return man(m) ? ranking(totals(state)).indexOf(m) : -1;
    }

    int ranked(int r) {
        return man(r) ? ranking(totals(state)).get(r) : -1;
    }

    int start(int n) {
        if (!in(n, 1, 16) || next(state) == -2) {
            return -1;
        }
        done();
        int count = 0;
        while (count < n && next(state) != -2) {
            state = start(state, seed());
            count++;
        }
        return count;
    }

    int letGo(int n) {
        if (!in(n, 0, waits()) || next(state) == -2) {
            return -1;
        }
        done();
        state = letGo(state, seed(), n);
        return state.jumps.get(state.jumps.size() - 1).length;
    }

    boolean gate(int g) {
        if (!in(g, 0, 40) || g == state.gate) {
            return false;
        }
        done();
        state = new State(state.second, state.round, g, state.started, state.order, state.jumps);
        return true;
    }

    int pause(int n) {
        if (!in(n, 1, 999)) {
            return -1;
        }
        done();
        state = new State(state.second + n, state.round, state.gate, state.started, state.order, state.jumps);
        return state.second;
    }

    boolean undo() {
        if (before.isEmpty()) {
            return false;
        }
        state = before.remove(before.size() - 1);
        return true;
    }

    // ---- what would be

    private Jump tried(int m, int n, int late) {
        return fly(seed(), m, 0, state.second + n, late, state.gate, state.started, false);
    }

    private static int value(Jump j, boolean points) {
        return points ? j.points : j.length;
    }

    int attempt(int m, int n, int late, int what) {
        if (!man(m) || !in(n, 0, 999) || !in(late, -9, 9) || !in(what, 0, 2)) {
            return -10000;
        }
        Jump j = tried(m, n, late);
        return what == 0 ? j.length : what == 1 ? j.points : j.style;
    }

    int wait(int m, int what) {
        if (!man(m) || !in(what, 0, 3)) {
            return -1;
        }
        List<Integer> values = new ArrayList<>();
        for (int n = 0; n <= waits(); n++) {
            values.add(value(tried(m, n, 0), what > 1));
        }
        int most = values.stream().mapToInt(i -> i).max().getAsInt();
        return what % 2 == 1 ? most : values.indexOf(most);
    }

    int cost(int m, int late, boolean points) {
        return man(m) && in(late, -9, 9) ? value(tried(m, 0, 0), points) - value(tried(m, 0, late), points) : -10000;
    }

    int pound(int m, int weight, int ski) {
        if (!man(m) || !in(weight, 0, 30) || !in(ski, 0, 60)) {
            return -10000;
        }
        Man h = men.get(m);
        int wind = trueWind(seed(), state.second);
        return far(h.weight - weight, h.ski - ski, wind, 0, state.started, state.gate)
            - far(h.weight, h.ski, wind, 0, state.started, state.gate);
    }

    int gain(int m) {
        return man(m) ? tried(m, 0, 0).points
            - fly(seed(), m, 0, state.second, 0, state.gate, state.started, true).points : -10000;
    }

    int number(int m) {
        return man(m) ? fly(seed(), m, 0, state.second, 0, state.gate, 0, false).points
            - fly(seed(), m, 0, state.second, 0, state.gate, men.size() - 1, false).points : -10000;
    }

    int gates(int what) {
        if (!in(what, 0, 1)) {
            return -1;
        }
        int best = -2;
        for (int g = 0; g <= 40; g++) {
            boolean safe = true;
            for (int n = 0; n < 10; n++) {
                int wind = trueWind(seed(), state.second + n);
                for (Man h : men) {
                    safe &= far(h.weight, h.ski, wind, 0, state.started, g) <= safe();
                }
            }
            best = safe ? g : best;
        }
        int sum = 0;
        for (Man h : men) {
            sum += far(h.weight, h.ski, trueWind(seed(), state.second), 0, state.started, best);
        }
        return what == 0 || best == -2 ? best : sum;
    }

    int crown(int m, int s) {
        if (!man(m) || !in(s, 1, 10)) {
            return -1;
        }
        int count = 0;
        for (int seed = seed(); seed < seed() + s; seed++) {
            count += ranking(totals(startAll(state, seed))).get(0) == m ? 1 : 0;
        }
        return count;
    }

    int without(int m, int judge) {
        if (!man(m) || !judge(judge)) {
            return -1;
        }
        List<Integer> totals = new ArrayList<>();
        for (int o = 0; o < men.size(); o++) {
            int sum = 0;
            for (Jump j : state.jumps) {
                List<Integer> marks = new ArrayList<>(j.marks);
                marks.remove(judge);
                sum += j.man == o ? pointsOf(j.length, style(marks), j.mean, j.gate) : 0;
            }
            totals.add(sum);
        }
        return ranking(totals).indexOf(m);
    }

    int needs(int m) {
        if (!man(m) || state.round > 2 || !state.order.subList(state.started, state.order.size()).contains(m)) {
            return -1;
        }
        List<Integer> totals = totals(state);
        int own = totals.get(m);
        int least = 0;
        for (int o = 0; o < men.size(); o++) {
            if (o != m) {
                least = Math.max(least, totals.get(o) + (o < m ? 1 : 0));
            }
        }
        for (int length = 0; length <= 9999; length++) {
            if (own + pointsOf(length, style(marks(m, length, 0, 0)), 0, state.gate) >= least) {
                return length;
            }
        }
        return -2;
    }

    int spread(int m) {
        if (!man(m)) {
            return -1;
        }
        int most = -1;
        int least = 10000;
        for (int n = 0; n <= waits(); n++) {
            most = Math.max(most, tried(m, n, 0).length);
            least = Math.min(least, tried(m, n, 0).length);
        }
        return most - least;
    }

    int atGate(int m, int g, boolean points) {
        return man(m) && in(g, 0, 40)
            ? value(fly(seed(), m, 0, state.second, 0, g, state.started, false), points) : -10000;
    }

    int lead(int m) {
        if (!man(m)) {
            return -10000;
        }
        List<Integer> others = totals(state);
        int own = others.remove(m);
        return own - others.stream().mapToInt(i -> i).max().orElse(0);
    }

    int reversed(int m) {
        if (!man(m)) {
            return -1;
        }
        List<Integer> order = new ArrayList<>();
        for (int o = men.size() - 1; o >= 0; o--) {
            order.add(o);
        }
        return ranking(totals(startAll(new State(0, 1, gateTold(), 0, order, List.of()), seed()))).indexOf(m);
    }

    int harsh(boolean kind, int what) {
        if (!in(what, 0, 1)) {
            return -1;
        }
        if (judges.isEmpty()) {
            return -2;
        }
        List<Integer> sums = new ArrayList<>();
        for (int j = 0; j < judges.size(); j++) {
            int judge = j;
            sums.add(state.jumps.stream().mapToInt(x -> x.marks.get(judge)).sum());
        }
        int end = kind ? sums.stream().mapToInt(i -> i).max().getAsInt() : sums.stream().mapToInt(i -> i).min().getAsInt();
        return what == 1 ? end : sums.indexOf(end);
    }

    int calm(int n, int what) {
        if (!in(n, 0, 999) || !in(what, 0, 1)) {
            return -10000;
        }
        int best = 0;
        for (int i = n; i >= 0; i--) {
            best = Math.abs(mean(seed(), state.second + i)) <= Math.abs(mean(seed(), state.second + best)) || i == n ? i : best;
        }
        return what == 0 ? best : mean(seed(), state.second + best);
    }

    int windiest(int second) {
        if (!in(second, 0, 99999)) {
            return -1;
        }
        int best = 0;
        for (int s = 1; s < 5; s++) {
            best = Math.abs(windAt(seed(), s, second)) > Math.abs(windAt(seed(), best, second)) ? s : best;
        }
        return best;
    }

    int progress(int m) {
        Jump one = jumpOf(state, m, 1);
        Jump two = jumpOf(state, m, 2);
        return one == null || two == null ? -10000 : two.length - one.length;
    }

    int himself(int what) {
        if (!in(what, 0, 2)) {
            return -10000;
        }
        int[] best = null;
        for (int m = 0; m < men.size(); m++) {
            for (int r = 1; r <= 2; r++) {
                Jump j = jumpOf(state, m, r);
                if (j != null) {
                    int more = j.length - fly(seed(), m, r, j.second, 0, j.gate, j.ahead, false).length;
                    best = best == null || more > best[1] ? new int[] {m, more, r} : best;
                }
            }
        }
        return best == null ? -2 : best[what];
    }

    int tell(int m, int second, int length) {
        if (!man(m) || !in(second, 0, 9999) || !in(length, 0, 9999) || told.size() == 20) {
            return -1;
        }
        told.add(new Told(m, second, length));
        return told.size() - 1;
    }

    int forget() {
        int n = told.size();
        told.clear();
        return n;
    }

    int slips(int m, int known, int i) {
        if (!man(m) || !in(known, 0, told.size())) {
            return -1;
        }
        List<Integer> may = new ArrayList<>();
        for (int late = -9; late <= 9; late++) {
            boolean fits = true;
            for (Told t : told.subList(0, known)) {
                fits &= t.man != m || fly(seed(), m, 1, t.second, late, gateTold(), 0, false).length == t.length;
            }
            if (fits) {
                may.add(late + 9);
            }
        }
        return i == -1 ? may.size() : in(i, 0, may.size() - 1) ? may.get(i) : -1;
    }

    boolean hold(int slot) {
        if (!in(slot, 0, 2)) {
            return false;
        }
        slots[slot] = state;
        return true;
    }

    boolean restore(int slot) {
        if (!in(slot, 0, 2) || slots[slot] == null) {
            return false;
        }
        state = slots[slot];
        before.clear();
        return true;
    }

    int count(int what) {
        return switch (what) {
            case 0 -> men.size();
            case 1 -> judges.size();
            case 2 -> k();
            case 3 -> safe();
            case 4 -> numbers.get("hill")[2];
            case 5 -> waits();
            case 6 -> numbers.get("second")[0];
            case 7 -> (int) state.jumps.stream().filter(j -> j.length > safe()).count();
            case 8 -> tape.length();
            case 9 -> before.size();
            case 10 -> told.size();
            case 11 -> (int) java.util.Arrays.stream(slots).filter(s -> s != null).count();
            case 12 -> state.jumps.stream().mapToInt(j -> j.length).max().orElse(0);
            default -> -1;
        };
    }
}
