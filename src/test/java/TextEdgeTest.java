import java.util.ArrayList;
import java.util.Arrays;
import java.util.HashSet;
import java.util.List;
import java.util.Set;

/**
 * Terms I and promises 1 to 5, sentence by sentence: TOKENS by each byte there is, the grammar by each TOKEN behind each
 * piece of a text, each number at its bounds, what holds if not told, FAULTS and their order, what a text changes.
 */
public final class TextEdgeTest {
    private static final String[] TELLS = {"hill", "wind", "far", "gives", "style", "goes", "parts", "man", "judge", "snow",
        "gusts", "waits", "gate", "second", "seed"};
    private static final String[] VARS = {"at", "section", "gust", "weight", "ski", "late", "white", "bar", "length", "lean",
        "home"};
    private static final String[] OTHERS = {"if", "then", "else", "name", "5", ";", "=", "+", "-", "*", "/", "<", "(", ")",
        "#", "abcdefghi", "12345"};
    private static final String ANN = "man ann 50 200 0 0;";

    private final Check check = new Check();

    public static void main(String[] args) {
        TextEdgeTest test = new TextEdgeTest();
        test.newObject();
        test.feeds();
        test.backs();
        test.places();
        test.length();
        test.blanks();
        test.names();
        test.ints();
        test.signs();
        test.grammarOfTells();
        test.grammarOfLaws();
        test.numbersOfTheHill();
        test.numbersOfPeople();
        test.otherNumbers();
        test.lastOnes();
        test.people();
        test.room();
        test.tokenRoom();
        test.laterFaults();
        test.faultChangesNothing();
        test.textBeginsAnew();
        test.check.end("TextEdgeTest");
    }

    private void due(String call, long want, long got) {
        check.due(call, want, got);
    }

    /** What a text reads as on a new object. */
    private void reads(int fault, int place, String text) {
        WindJump x = new WindJump();
        String call = text.length() > 160 ? text.substring(0, 70) + " .. " + text.substring(text.length() - 70) : text;
        due("read of " + call, fault, Check.read(x, text));
        due("place of " + call, place, x.place());
    }

    private void fine(String text) {
        reads(0, -1, text);
    }

    private static boolean isBlank(int c) {
        return c == 9 || c == 10 || c == 13 || c == 32;
    }

    private static boolean isLetter(int c) {
        return c >= 'a' && c <= 'z';
    }

    private static boolean isDigit(int c) {
        return c >= '0' && c <= '9';
    }

    private void newObject() {
        check.about("1: Nothing is told");
        WindJump empty = Check.told("");
        check.due("a new object is as one that was told nothing", Seen.of(empty), Seen.of(new WindJump()));
        due("place", -1, new WindJump().place());
    }

    private void feeds() {
        check.about("2: Twenty bytes, the highest of a first");
        WindJump x = new WindJump();
        due("feed", 20, x.feed(0x68696c6c, 0x20313233, 0x20343536, 0x20373820, 0x20203b20));
        due("read", 0, x.read());
        due("K", 123, x.count(2));
        due("SAFE", 456, x.count(3));
        due("METRE", 78, x.count(4));
        for (int i = 0; i < 20; i++) {
            int[] five = {0x20202020, 0x20202020, 0x20202020, 0x20202020, 0x20202020};
            five[i / 4] |= 0xff << 24 - i % 4 * 8;
            due("feed", 20, x.feed(five[0], five[1], five[2], five[3], five[4]));
            due("a byte of 255", 1, x.read());
            due("its place", i, x.place());
        }
        check.about("2: come behind the tape");
        Check.feed(x, "hill 1");
        due("feed", 26, x.feed(0x3030203b, -1, 0, Integer.MIN_VALUE, Integer.MAX_VALUE));
        due("back", 10, x.back(16));
        due("read", 1, x.read());
        due("place", 9, x.place());
        for (int ahead = 1979; ahead <= 2000; ahead++) {
            check.about("2: NONE, and nothing comes, if it would have more than 2,000: ahead " + ahead);
            WindJump one = filled(ahead);
            WindJump other = filled(ahead);
            boolean fits = ahead <= 1980;
            due("feed", fits ? ahead + 20 : -1, one.feed(-1, -1, -1, -1, -1));
            due("count(8)", fits ? ahead + 20 : ahead, one.count(8));
            if (fits) {
                due("back", ahead, one.back(20));
            }
            check.due("the tape", Seen.of(other), Seen.of(one));
        }
    }

    /** An object with so many bytes on the tape. */
    private static WindJump filled(int bytes) {
        WindJump x = new WindJump();
        Check.feed(x, " ".repeat(bytes - 13) + "hill 777 888;");
        return x;
    }

    private void backs() {
        check.about("3: The last n bytes of the tape go");
        String text = "hill 800 900 7;";
        for (int n = 0; n <= text.length(); n++) {
            WindJump x = new WindJump();
            Check.feed(x, text);
            due("back " + n, text.length() - n, x.back(n));
            due("count(8)", text.length() - n, x.count(8));
            Check.feed(x, text.substring(text.length() - n));
            due("read", 0, x.read());
            due("METRE", 7, x.count(4));
        }
        check.about("3: NONE, and nothing goes, if it has not so many, or n is below 0");
        for (int n : new int[] {text.length() + 1, 2000, Integer.MAX_VALUE, -1, -2, Integer.MIN_VALUE}) {
            WindJump x = new WindJump();
            Check.feed(x, text);
            due("back " + n, -1, x.back(n));
            due("count(8)", text.length(), x.count(8));
            due("read", 0, x.read());
            due("METRE", 7, x.count(4));
            due("back 1 of an empty tape", -1, x.back(1));
            due("back 0 of an empty tape", 0, x.back(0));
        }
    }

    private void places() {
        check.about("4, 5: read and place");
        WindJump x = new WindJump();
        due("read of an empty tape", 0, x.read());
        due("place", -1, x.place());
        due("fault", 5, Check.read(x, "  snow 100;"));
        due("place", 7, x.place());
        Check.feed(x, "snow 99;");
        due("place stays till the next read()", 7, x.place());
        due("back", 0, x.back(8));
        due("place stays till the next read()", 7, x.place());
        due("read of an empty tape", 0, x.read());
        due("place: none without", -1, x.place());
        due("fault", 1, Check.read(x, "snow"));
        due("place", 4, x.place());
        due("the tape is empty then", 0, x.count(8));
        due("fault", 3, Check.read(x, ANN + ANN));
        due("place", ANN.length() + 4, x.place());
        due("none", 0, Check.read(x, ANN));
        due("place", -1, x.place());
        due("the tape is empty then", 0, x.count(8));
    }

    private void length() {
        check.about("I: A TEXT has 2,000 bytes at most");
        WindJump x = new WindJump();
        due("a text of 2,000", 0, Check.read(x, " ".repeat(1984) + "hill 800 900 77;"));
        due("METRE", 77, x.count(4));
        reads(5, 1996, " ".repeat(1983) + "hill 800 900 100;");
        reads(5, 1996, " ".repeat(1991) + "snow 100;");
        reads(1, 1999, " ".repeat(1992) + "snow 9;=");
        reads(1, 2000, " ".repeat(1994) + "snow 9");
        fine(" ".repeat(2000));
        reads(1, 1999, " ".repeat(1999) + "\u0000");
    }

    /** Each byte between two TOKENS, behind them and ahead of them. */
    private void blanks() {
        for (int c = 0; c < 256; c++) {
            check.about("I: with blanks (9, 10, 13, 32) between or not: byte " + c);
            String s = "" + (char) c;
            boolean joins = isBlank(c) || isDigit(c);
            reads(joins ? 0 : 1, joins ? -1 : isLetter(c) ? 0 : 4, "snow" + s + "7;");
            reads(isBlank(c) ? 0 : 1, isBlank(c) ? -1 : 7, "snow 7;" + s);
            reads(isBlank(c) ? 0 : 1, isBlank(c) ? -1 : 0, s + "snow 7;");
        }
        check.about("I: TOKENS, the longest that can be");
        fine("snow7;snow8;man ann50 200 0 0;wind=if1<2then3else4;judge x-9 9;");
        reads(1, 0, "sn ow 7;");
        reads(1, 0, "snowsnow 7;");
        reads(1, 7, "snow 7 7;");
        reads(1, 5, "wind=atat;");
        reads(1, 10, "wind=if1<2thenelse 4;");
        fine("wind = 1\n\r\t +\t2 ;\r\n");
    }

    private void names() {
        for (int c = 0; c < 256; c++) {
            check.about("I: NAMES (letters a .. z): byte " + c);
            String s = "" + (char) c;
            reads(isLetter(c) ? 0 : 1, isLetter(c) ? -1 : isBlank(c) ? 6 : 4, "man " + s + " 50 200 0 0;");
            int place = c == 't' ? 4 : isLetter(c) || isBlank(c) ? -1 : isDigit(c) ? 16 : 5;
            reads(place < 0 ? 0 : 1, place, "man a" + s + " 50 200 0 0;");
        }
        for (int size = 1; size <= 20; size++) {
            check.about("I: NAMES, 8 at most");
            String name = "abcdefghijklmnopqrst".substring(0, size);
            reads(size <= 8 ? 0 : 1, size <= 8 ? -1 : 4, "man " + name + " 50 200 0 0;");
            reads(size <= 8 ? 0 : 1, size <= 8 ? -1 : 6, "judge " + name + " 0 0;");
        }
        fine("man hillhill 50 200 0 0;");
        reads(1, 4, "man hillhillh 50 200 0 0;");
        reads(1, 0, "secondsecond 3;");
        for (String word : words()) {
            check.about("I: NAMES, none of the words in quotes: " + word);
            reads(1, 4, "man " + word + " 50 200 0 0;");
            reads(1, 6, "judge " + word + " 0 0;");
            if (word.length() < 8) {
                fine("man " + word + "q 50 200 0 0; judge q" + word + " 0 0;");
            }
            String shorter = word.substring(0, word.length() - 1);
            if (!shorter.equals("gust")) {
                fine("man " + shorter + " 50 200 0 0;");
                fine("judge " + shorter + " 0 0;");
            }
        }
        check.about("I: words in quotes are small");
        reads(1, 0, "Snow 7;");
        reads(1, 0, "sNOW 7;");
        reads(1, 5, "wind=AT;");
    }

    private static String[] words() {
        String[] all = Arrays.copyOf(TELLS, TELLS.length + VARS.length + 3);
        System.arraycopy(VARS, 0, all, TELLS.length, VARS.length);
        System.arraycopy(OTHERS, 0, all, TELLS.length + VARS.length, 3);
        return all;
    }

    private void ints() {
        for (int c = 0; c < 256; c++) {
            check.about("I: INTS: byte " + c);
            int place = isBlank(c) || isDigit(c) ? -1 : c == ';' ? 7 : 6;
            reads(place < 0 ? 0 : 1, place, "seed 1" + (char) c + ";");
        }
        check.about("I: INTS (1 to 4 digits)");
        String digits = "00000000000000000000000";
        for (int size = 1; size <= digits.length(); size++) {
            reads(size <= 4 ? 0 : 1, size <= 4 ? -1 : 5, "seed " + digits.substring(0, size) + ";");
            reads(size <= 4 ? 0 : 1, size <= 4 ? -1 : 9, "wind = 1+" + digits.replace('0', '9').substring(0, size) + ";");
        }
        WindJump x = Check.told("hill 0900 0999 0007;");
        due("K", 900, x.count(2));
        due("SAFE", 999, x.count(3));
        due("METRE", 7, x.count(4));
        reads(1, 5, "snow -1;");
        reads(1, 5, "snow +1;");
        reads(1, 6, "snow 1-1;");
        reads(1, 6, "snow 1a;");
    }

    private void signs() {
        for (int c = 0; c < 256; c++) {
            check.about("I: SIGNS: byte " + c);
            boolean joins = "+-*/".indexOf(c) >= 0;
            int place = joins ? -1 : isBlank(c) || c == ';' ? 11 : 9;
            reads(joins ? 0 : 1, place, "wind = 1 " + (char) c + " 2;");
        }
    }

    /**
     * Behind a piece of a text the told TOKENS stand, each other one (and what is none) is a FAULT at its place; is the
     * text's end one, then its length is the place.
     */
    private void behind(String piece, boolean mayEnd, String... may) {
        String from = piece.isEmpty() ? "" : piece + " ";
        Set<String> allowed = new HashSet<>(List.of(may));
        reads(mayEnd ? 0 : 1, mayEnd ? -1 : piece.length(), piece);
        List<String> all = new ArrayList<>(List.of(words()));
        all.addAll(List.of(OTHERS).subList(3, OTHERS.length));
        for (String token : all) {
            String text = from + token;
            if (!allowed.remove(token)) {
                reads(1, from.length(), text);
            } else if (token.equals(";")) {
                fine(text);
            } else {
                reads(1, text.length(), text);
            }
        }
        due("all that may stand behind " + piece + " was tried", 0, allowed.size());
    }

    private void grammarOfTells() {
        check.about("I: text: {TELL}");
        behind("", true, TELLS);
        behind("snow 1;", true, TELLS);
        check.about("I: TELL");
        intsThenEnd("hill", "900", "1000", "20");
        intsThenEnd("parts", "1", "1", "1", "1", "1");
        intsThenEnd("snow", "1");
        intsThenEnd("gusts", "1");
        intsThenEnd("waits", "1", "1");
        intsThenEnd("gate", "1", "1");
        intsThenEnd("second", "1");
        intsThenEnd("seed", "1");
        behind("man", false, "name");
        intsThenEnd("man ann", "50", "200", "0", "0");
        behind("judge", false, "name");
        behind("judge ann", false, "-", "5");
        behind("judge ann -", false, "5");
        intsThenEnd("judge ann -", "0", "0");
        behind("judge ann 1", false, "5");
        behind("judge ann 1 1", false, ";");
    }

    private void intsThenEnd(String begin, String... numbers) {
        StringBuilder piece = new StringBuilder(begin);
        for (String number : numbers) {
            behind(piece.toString(), false, "5");
            piece.append(' ').append(number);
        }
        behind(piece.toString(), false, ";");
    }

    private void grammarOfLaws() {
        check.about("I: LAW, E, PART, UNIT, VAR");
        for (String law : new String[] {"wind", "far", "gives", "style", "goes"}) {
            behind(law, false, "=");
            behind(law + " =", false, units("if"));
            behind(law + " = 1", false, "+", "-", "*", "/", ";");
        }
        for (String unit : new String[] {"at", "home", "(1)", "1 + 1", "1 - 1", "1 * 1", "1 / 1", "if 1 < 1 then 1 else 1"}) {
            behind("wind = " + unit, false, "+", "-", "*", "/", ";");
        }
        String[] begun = {"(", "(((((", "1 +", "1 -", "1 *", "1 /", "1 + (", "if", "if 1 +", "if 1 <", "if 1 < 1 then",
            "if 1 < 1 then 1 *", "if 1 < 1 then 1 else 1 -"};
        for (String piece : begun) {
            behind("wind = " + piece, false, units());
        }
        behind("wind = (1", false, "+", "-", "*", "/", ")");
        behind("wind = (1 + 1", false, "+", "-", "*", "/", ")");
        behind("wind = ((1)", false, "+", "-", "*", "/", ")");
        behind("wind = if 1", false, "+", "-", "*", "/", "<");
        behind("wind = if (1)", false, "+", "-", "*", "/", "<");
        behind("wind = if 1 < 1", false, "+", "-", "*", "/", "then");
        behind("wind = if 1 < 1 then 1", false, "+", "-", "*", "/", "else");
        behind("wind = if 1 < 1 then 1 else", false, units("if"));
        behind("wind = if 1 < 1 then 1 else if", false, units());
    }

    private static String[] units(String... more) {
        String[] all = Arrays.copyOf(VARS, VARS.length + 2 + more.length);
        all[VARS.length] = "5";
        all[VARS.length + 1] = "(";
        System.arraycopy(more, 0, all, VARS.length + 2, more.length);
        return all;
    }

    /** A number just beyond its bounds is WRONG at its INT; what it is within them is seen by the call. */
    private void bounds(String tell, int low, int high, Seen.Call call, long atLow, long atHigh) {
        int place = tell.indexOf('#');
        check.about("I: " + low + " .. " + high + " of " + tell);
        if (low > 0) {
            reads(5, place, tell.replace("#", "" + (low - 1)));
            reads(5, place, tell.replace("#", "0"));
        }
        reads(5, place, tell.replace("#", "" + (high + 1)));
        reads(5, place, tell.replace("#", "9999"));
        due("at " + low, atLow, call.of(Check.told(tell.replace("#", "" + low))));
        due("at " + high, atHigh, call.of(Check.told(tell.replace("#", "" + high))));
    }

    private void numbersOfTheHill() {
        bounds("hill # 1000 20;", 100, 2500, x -> x.count(2), 100, 2500);
        bounds("hill 900 # 20;", 100, 2500, x -> x.count(3), 100, 2500);
        bounds("hill 900 1000 #;", 0, 99, x -> x.count(4), 0, 99);
        String wind = " wind = if section < 1 then 10 else if section < 2 then 20 else if section < 3 then 30 else"
            + " if section < 4 then 40 else 50;";
        bounds("parts # 1 0 0 0;" + wind, 0, 9, x -> x.now(6), 20, 11);
        bounds("parts 1 # 0 0 0;" + wind, 0, 9, x -> x.now(6), 10, 19);
        bounds("parts 1 0 # 0 0;" + wind, 0, 9, x -> x.now(6), 10, 28);
        bounds("parts 1 0 0 # 0;" + wind, 0, 9, x -> x.now(6), 10, 37);
        bounds("parts 1 0 0 0 #;" + wind, 0, 9, x -> x.now(6), 10, 46);
    }

    private void numbersOfPeople() {
        Seen.Call far = x -> x.attempt(0, 0, 0, 0);
        bounds("man a # 200 0 0; far = weight;", 30, 120, far, 30, 120);
        bounds("man a 50 # 0 0; far = ski;", 100, 300, far, 100, 300);
        bounds("man a 50 200 # 0; waits 0 1; seed 4;", 0, 9, x -> x.start(1) + x.jump(0, 1, 3),
            1, 1 + Lot.of(19, 4, 100000) - 9);
        bounds("man a 50 200 0 #; style = home; judge j 0 9;", 0, 9, x -> x.attempt(0, 0, 0, 2), 0, 1);
        bounds("man a 50 200 0 9; style = home; judge j 0 #;", 0, 9, x -> x.attempt(0, 0, 0, 2), 0, 1);
        bounds("man a 50 200 0 0; style = 100 + lean; judge j # 0;", 0, 9, x -> x.attempt(0, 0, 0, 2), 100, 109);
        bounds("man a 50 200 0 0; style = 100 + lean; judge j - # 0;", 0, 9, x -> x.attempt(0, 0, 0, 2), 100, 91);
    }

    private void otherNumbers() {
        bounds("snow #; man a 50 200 0 0; man b 50 200 0 0; far = white;", 0, 99,
            x -> x.letGo(0) + x.attempt(1, 0, 0, 0), 0, 99);
        bounds("gusts #; seed 3;", 0, 30, x -> x.wind(2, 5), 0, Lot.of(61, 3, 42) - 30);
        bounds("waits # 60;", 0, 30, x -> x.count(5), 0, 30);
        bounds("waits 10 #; man a 50 200 0 0; far = 0;", 1, 300, x -> x.letGo(0) + x.now(0), 1, 300);
        bounds("gate # 50;", 0, 40, x -> x.now(2), 0, 40);
        bounds("gate 20 #; man a 50 200 0 0; far = 900;", 0, 99, x -> x.atGate(0, 19, true), 600, 699);
        bounds("second #;", 1, 8, x -> x.count(6), 1, 8);
        check.about("I: SEED 0 .. 9999");
        reads(1, 5, "seed 10000;");
        due("at 9999", Lot.of(61, 9999, 42) - 30, Check.told("seed 9999; gusts 30;").wind(2, 5));
        due("at 0", Lot.of(61, 0, 42) - 30, Check.told("gusts 30; seed 0;").wind(2, 5));
        check.about("I: numbers of a LAW are all as told");
        due("0", 0, Check.told("man a 50 200 0 0; far = 0;").attempt(0, 0, 0, 0));
        due("9999", 9999, Check.told("man a 50 200 0 0; far = 9999;").attempt(0, 0, 0, 0));
    }

    /** What holds if a TELL is not told, that the last one counts, and that a text is in place of the one ahead. */
    private void last(String base, Seen.Call call, long untold, String one, long ofOne, String other, long ofOther) {
        check.about("I: if not told; the last one: " + one);
        due("not told", untold, call.of(Check.told(base)));
        due("one told", ofOne, call.of(Check.told(base + one)));
        due("told ahead", ofOne, call.of(Check.told(one + base)));
        due("both told", ofOther, call.of(Check.told(base + one + other)));
        due("both told", ofOne, call.of(Check.told(other + base + one)));
        due("thrice", ofOther, call.of(Check.told(other + base + one + one + other)));
        WindJump x = Check.told(base + one);
        due("read", 0, Check.read(x, base));
        due("not told again", untold, call.of(x));
        due("read", 0, Check.read(x, base + other));
        due("the other in its place", ofOther, call.of(x));
        WindJump y = Check.told(base + other);
        due("read", 1, Check.read(y, base + one + "snow"));
        due("a FAULT leaves what was told", ofOther, call.of(y));
    }

    private void lastOnes() {
        last("", x -> x.count(2), 900, "hill 100 100 1;", 100, "hill 2500 100 1;", 2500);
        last("", x -> x.count(3), 1000, "hill 100 100 1;", 100, "hill 100 2500 1;", 2500);
        last("", x -> x.count(4), 20, "hill 100 100 0;", 0, "hill 100 100 99;", 99);
        last("", x -> x.wind(0, 0), 0, "wind = 5;", 5, "wind = 0 - 6;", -6);
        Seen.Call far = x -> x.attempt(0, 0, 0, 0);
        last(ANN, far, 900, "far = 0;", 0, "far = 9999;", 9999);
        last(ANN + "wind = 7; hill 1000 900 5;", far, 1014, "far = 1;", 1, "far = 2;", 2);
        last(ANN + "gate 8 50;", x -> x.atGate(0, 11, false), 915, "far = bar;", 3, "far = 10 + bar;", 13);
        last(ANN, x -> x.attempt(0, 0, 0, 1), 600, "gives = 5;", 605, "gives = 0 - 7;", 593);
        last(ANN + "judge j 3 0;", x -> x.attempt(0, 0, 5, 2), 170, "style = 0;", 0, "style = 200;", 200);
        Seen.Call behind = x -> x.start(1) * 100 + x.jump(0, 1, 4);
        last(ANN, behind, 100, "goes = 0;", 110, "goes = at - 3;", 104);
        last("wind = section * 10;", x -> x.now(6), 20, "parts 1 0 0 0 0;", 0, "parts 0 0 0 0 9;", 40);
        last(ANN + "man b 50 200 0 0; far = 1000 - white;", x -> x.letGo(0) + x.letGo(0), 2000, "snow 99;", 1901, "snow 1;", 1999);
        last("", x -> x.wind(1, 1), 0, "gusts 30;", Lot.of(61, 0, 9) - 30, "gusts 1;", Lot.of(3, 0, 9) - 1);
        last("", x -> x.count(5), 10, "waits 0 9;", 0, "waits 30 9;", 30);
        last(ANN, x -> x.letGo(0) + x.now(0), 960, "waits 1 1;", 901, "waits 1 300;", 1200);
        last("", x -> x.now(2), 20, "gate 0 9;", 0, "gate 40 9;", 40);
        last(ANN + "far = 900;", x -> x.atGate(0, x.now(2) + 1, true), 550, "gate 20 0;", 600, "gate 20 99;", 501);
        last("", x -> x.count(6), 8, "second 1;", 1, "second 7;", 7);
        last("gusts 30;", x -> x.wind(1, 1), Lot.of(61, 0, 9) - 30, "seed 9999;", Lot.of(61, 9999, 9) - 30,
            "seed 1;", Lot.of(61, 1, 9) - 30);
    }

    private static String men(int n) {
        StringBuilder out = new StringBuilder();
        for (int i = 0; i < n; i++) {
            out.append("man m").append((char) ('a' + i)).append(' ').append(50 + i).append(" 200 0 0;");
        }
        return out.toString();
    }

    private static String judges(int n) {
        StringBuilder out = new StringBuilder();
        for (int i = 0; i < n; i++) {
            out.append("judge j").append((char) ('a' + i)).append(' ').append(i).append(" 0;");
        }
        return out.toString();
    }

    private void people() {
        check.about("I: MEN, 8 at most, JUDGES, 7 at most");
        for (int n = 0; n <= 8; n++) {
            due("MEN", n, Check.told(men(n)).count(0));
            due("JUDGES", Math.min(n, 7), Check.told(judges(Math.min(n, 7)) + men(n)).count(1));
        }
        reads(2, men(8).length(), men(9));
        reads(2, men(8).length(), men(8) + "man");
        reads(2, men(8).length() + 1, men(8) + "\nman ma 1 1 1 1;");
        reads(2, judges(7).length(), judges(8));
        reads(2, judges(7).length(), judges(7) + "judge");
        reads(2, judges(7).length() + men(8).length(), judges(7) + men(8) + "judge");
        reads(2, judges(7).length() + men(8).length(), men(8) + judges(7) + "man");
        reads(1, men(8).length(), men(8) + "ann");
        reads(1, men(8).length() + 5, men(8) + "snow man");
        check.about("I: numbered each from 0 on as they stand");
        WindJump x = Check.told("judge j 1 0; man a 30 200 0 0; judge k 2 0; man b 40 200 0 0; far = weight; man c 50 200 0 0;"
            + "style = lean * 10; judge l - 3 0;");
        for (int man = 0; man < 3; man++) {
            due("WEIGHT of " + man, 30 + 10 * man, x.attempt(man, 0, 0, 0));
        }
        x.letGo(0);
        due("mark 0", 10, x.mark(0, 1, 0));
        due("mark 1", 20, x.mark(0, 1, 1));
        due("mark 2", 0, x.mark(0, 1, 2));
        due("no mark 3", -10000, x.mark(0, 1, 3));
        check.about("I: a text is in place of the one ahead: its MEN and JUDGES too");
        due("read", 0, Check.read(x, men(1)));
        due("MEN", 1, x.count(0));
        due("JUDGES", 0, x.count(1));
        due("read", 0, Check.read(x, men(8) + judges(7)));
        due("read", 0, Check.read(x, men(8) + judges(7)));
        due("MEN", 8, x.count(0));
        due("JUDGES", 7, x.count(1));
    }

    private void room() {
        check.about("I: a 5th if of a LAW (at it)");
        String then = "if 1 < 0 then 1 else ";
        for (String law : new String[] {"wind", "far", "gives", "style", "goes"}) {
            String begin = "snow 1;" + law + " = ";
            fine(begin + then.repeat(4) + "5;");
            reads(2, begin.length() + 4 * then.length(), begin + then.repeat(5) + "5;");
            reads(2, begin.length() + 4 * then.length(), begin + then.repeat(4) + "if");
            reads(1, begin.length() + 4 * then.length(), begin + then.repeat(4) + "then");
            reads(1, begin.length() + 4 * then.length(), begin + then.repeat(4));
            fine(begin + then.repeat(4) + "5;" + law + " = " + then.repeat(4) + "5;");
            check.about("I: a 7th ( within one another (at it)");
            fine(begin + "((((((1))))));");
            reads(2, begin.length() + 6, begin + "(((((((1)))))));");
            reads(2, begin.length() + 6, begin + "(((((((");
            reads(1, begin.length() + 6, begin + "((((((");
            reads(1, begin.length() + 6, begin + "(((((()");
        }
        fine("wind = ((((((1)))))) * ((((((2))))));");
        fine("wind = (((((1 + (1)))))) * (((((2 - (at))))));");
        fine("wind = if ((((((1)))))) < ((((((2)))))) then ((((((3)))))) else ((((((4))))));");
        reads(2, 16, "wind = if (((((((1))))))) < 2 then 3 else 4;");
        reads(2, 20, "wind = if 1 < (((((((1))))))) then 3 else 4;");
        reads(2, 27, "wind = if 1 < 2 then (((((((1))))))) else 4;");
        reads(2, 34, "wind = if 1 < 2 then 3 else (((((((1)))))));");
        reads(2, 33, "wind = ((((((1)))))) + 1 * (((((((2)))))));");
        reads(2, 25, "wind = (1+(1*(1-(1/(1+(1-((1)))))))));");
    }

    /** A 401st TOKEN at each place of the grammar; SYNTAX is the least of one place. */
    private void tokenRoom() {
        check.about("I: a 401st TOKEN");
        String most = "snow 1;".repeat(130);
        // each of 10 TOKENS
        String[] tails = {"hill 900 1000 20;hill 900 1000 20;", "wind = 1 + 2 * 3 - 4;", "gate 3 3;man ann 50 200 0 0",
            "judge ann - 1 0;gate 3 3;", "snow 1;snow 1;seed 3;judge", "wind = if 1 < 2 + 2 then 3", "wind = ((((((1 +",
            "wind = (((((1 + 1", "gate 3 3;parts 1 1 1 1 1", "snow 1;snow 1;snow 1;seed"};
        String[][] next = {TELLS, {"snow"}, {";"}, {"judge"}, {"bob"}, {"else", "+"}, {"1", "at", "("}, {")", "*"}, {";"}, {"5"}};
        for (int i = 0; i < tails.length; i++) {
            String full = most + tails[i];
            boolean ended = full.endsWith(";");
            reads(ended ? 0 : 1, ended ? -1 : full.length(), full);
            for (String token : next[i]) {
                reads(2, full.length() + 1, full + " " + token);
                reads(2, full.length() + 1, full + "\n" + token + " # #");
            }
            reads(1, full.length() + 1, full + " #");
            reads(1, full.length() + 1, full + " =");
            reads(1, full.length() + 1, full + " abcdefghi");
            reads(1, full.length() + 1, full + " 12345");
        }
        check.about("I: a 401st TOKEN that is another FAULT of ROOM as well");
        String men = men(8);
        String ahead = men + "snow 1;".repeat(112) + "gate 3 3;gate 3 3;";
        fine(ahead);
        reads(2, ahead.length(), ahead + "man");
        check.about("I: a FAULT ahead of the 401st TOKEN comes first");
        reads(1, 7, "snow 1;=" + "snow 1;".repeat(150));
        reads(2, men.length() + 7, men + "snow 1;man mi 50 200 0 0;" + "snow 1;".repeat(120));
        reads(2, 936, "snow 1;".repeat(133) + "snow 100;".repeat(3));
    }

    private void laterFaults() {
        check.about("I: If there is none, likewise: 3 TWICE: a NAME told already (MEN and JUDGES together)");
        reads(3, 24, "man ann 50 200 0 0; man ann 50 200 0 0;");
        reads(3, 26, "man ann 50 200 0 0; judge ann 0 0;");
        reads(3, 18, "judge ann 0 0;man ann 50 200 0 0;");
        reads(3, 20, "judge ann 0 0;judge ann 0 0;");
        reads(3, 24, "man ann 50 200 0 0; man ann 50 200 0 0; man ann 50 200 0 0;");
        reads(3, 24, "man ann 50 200 0 0; man ann50 200 0 0;");
        reads(3, 24, "man ann60 200 0 0;  man\nann\n50 200 0 0;");
        reads(3, 20, "judge ann-9 0;judge ann 0 0;");
        reads(3, men(8).length() + judges(6).length() + 6, men(8) + judges(6) + "judge ma 0 0;");
        reads(3, men(8).length() + judges(6).length() + 6, men(8) + judges(6) + "judge jf 0 0;");
        reads(3, men(7).length() + judges(7).length() + 4, men(7) + judges(7) + "man jg 50 200 0 0;");
        fine("man abcdefgh 50 200 0 0; man abcdefgg 50 200 0 0; man abcdefg 50 200 0 0; man bbcdefgh 50 200 0 0;");
        fine("man a 50 200 0 0; man aa 50 200 0 0; judge aaa 0 0; judge b 0 0; man ba 50 200 0 0;");
        WindJump x = Check.told(ANN);
        due("a NAME of the text ahead is told anew", 0, Check.read(x, ANN));
        check.about("I: the first by its place");
        reads(5, 8, "man ann 20 200 0 0; man ann 50 200 0 0;");
        reads(3, 24, "man ann 50 200 0 0; man ann 20 200 0 0;");
        reads(5, 5, "snow 100; gusts 31; seed 1;");
        reads(5, 24, "hill 900 1000 20; gusts 31;");
        reads(5, 9, "hill 900 99 100;");
        reads(5, 5, "hill 99 99 100;");
        reads(5, 13, "snow 1; snow 100; snow 2;");
        check.about("I: SYNTAX and ROOM ahead of TWICE and WRONG, wherever they stand");
        reads(1, 9, "snow 100;=");
        reads(1, 9, "snow 100 ");
        reads(1, 38, ANN + ANN + "=");
        reads(2, 21, "snow 100;far=  (((((((1)))))));");
        reads(2, 9 + men(8).length(), "snow 100;" + men(8) + "man");
        reads(1, 9, "snow 100;# man ann 50 200 0 0; man ann");
    }

    private void faultChangesNothing() {
        String[] faulty = {"snow", "=", "hill 800 900 7; seed 5; gusts 9; man zed 30 100 9 9; judge zed2", men(8) + "man",
            "hill 800 900 7; parts 9 9 9 9 9; wind = 1; far = 2; gives = 3; style = 4; goes = 0; man bob 50 200 1 1; judge bob 2 2;"
                + "snow 3; gusts 4; waits 5 6; gate 7 8; second 3; seed 10;",
            "hill 800 900 7; parts 9 9 9 9 9; wind = 1; far = 2; gives = 3; style = 4; goes = 0; man bob 50 200 1 1; judge bo 2 2;"
                + "snow 3; gusts 4; waits 5 6; gate 7 8; second 9;"};
        int[] faults = {1, 1, 1, 2, 3, 5};
        for (int i = 0; i < faulty.length; i++) {
            check.about("I: A text with a FAULT changes nothing but the tape: " + faults[i]);
            WindJump x = RefusedTest.scene();
            x.back(x.count(8));
            WindJump y = RefusedTest.scene();
            y.back(y.count(8));
            due("read", faults[i], Check.read(x, faulty[i]));
            check.due("all", Seen.of(y), Seen.of(x));
        }
    }

    private void textBeginsAnew() {
        check.about("I: else it is in place of the one ahead: second 0, round 1, nobody has started, ..");
        for (String text : new String[] {"", ANN, PromiseTest.HILL, men(8) + judges(7) + "gate 3 3; seed 8; gusts 3;"}) {
            WindJump x = RefusedTest.scene();
            x.back(x.count(8));
            due("read", 0, Check.read(x, text));
            check.due("all", Seen.of(Check.told(text)), Seen.of(x));
        }
        check.about("I: .. round 1: by numbers, whatever the order of round 2 was");
        for (String far : new String[] {"900 + weight", "1100 - weight"}) {
            String text = men(4) + "waits 0 1; second 3; far = " + far + ";";
            WindJump again = Check.told(text);
            again.start(6);
            due("read", 0, Check.read(again, text));
            for (int man = 0; man < 4; man++) {
                due("next", man, again.now(3));
                again.start(1);
            }
        }
        check.about("I: an empty text");
        WindJump x = RefusedTest.scene();
        x.back(x.count(8));
        due("read of an empty tape", 0, x.read());
        due("MEN", 0, x.count(0));
        int[] now = {0, 1, 20, -2, 0};
        for (int what = 0; what < now.length; what++) {
            due("now(" + what + ")", now[what], x.now(what));
        }
        due("things that can be undone", 0, x.count(9));
        due("TOLD", 0, x.count(10));
        due("SLOTS", 0, x.count(11));
        due("undo", 0, x.undo() ? 1 : 0);
    }
}
