/** Promises 4 and 5: texts with FAULTS, and texts that only just have none. */
public final class FaultTest {
    private final Check check = new Check();

    public static void main(String[] args) {
        FaultTest test = new FaultTest();
        test.syntax();
        test.tokens();
        test.room();
        test.tokenRoom();
        test.twice();
        test.wrong();
        test.order();
        test.bytes();
        test.check.end("FaultTest");
    }

    private void due(int fault, int place, String text) {
        check.about(text.length() > 200 ? text.substring(0, 90) + " .. " + text.substring(text.length() - 90) : text);
        WindJump x = new WindJump();
        check.due("read", fault, Check.read(x, text));
        check.due("place", place, x.place());
        check.due("bytes left", 0, x.count(8));
    }

    private void fine(String text) {
        due(0, -1, text);
    }

    private void syntax() {
        fine("");
        fine(" \t\r\n");
        due(1, 0, ";");
        due(1, 0, "ann");
        due(1, 0, "9");
        due(1, 0, "if");
        due(1, 0, "at");
        due(1, 2, "  hil 1 2 3;");
        due(1, 4, "hill");
        due(1, 6, "hill  ");
        due(1, 5, "hill ; ");
        due(1, 12, "hill 900 100;");
        due(1, 17, "hill 900 1000 20 1;");
        due(1, 18, "hill 900 1000 20  ");
        due(1, 5, "hill -900 1000 20;");
        due(1, 5, "wind 3;");
        due(1, 4, "wind;");
        due(1, 4, "hill;");
        due(1, 3, "man;");
        due(1, 7, "judge x;");
        due(1, 5, "parts;");
        due(1, 4, "seed;");
        due(1, 6, "wind =;");
        due(1, 6, "wind =");
        due(1, 7, "wind = - 3;");
        due(1, 9, "wind = 3 4;");
        due(1, 8, "wind = 3");
        due(1, 10, "wind = 3 +;");
        due(1, 9, "wind = (3;");
        due(1, 8, "wind = 3);");
        due(1, 7, "wind = ann;");
        due(1, 7, "wind = hill;");
        due(1, 9, "wind = 3 < 4;");
        due(1, 12, "wind = if 3 then 4 else 5;");
        due(1, 16, "wind = if 3 < 4 else 5;");
        due(1, 22, "wind = if 3 < 4 then 5;");
        due(1, 27, "wind = if 3 < 4 then 5 else;");
        due(1, 8, "wind = (if 1 < 2 then 3 else 4);");
        due(1, 21, "wind = if 3 < 4 then if 1 < 2 then 3 else 4 else 5;");
        fine("wind = if at < section then gust else if weight<ski then late*white else bar/length+lean-home;");
        due(1, 4, "man 50 200 0 0;");
        due(1, 4, "man man 50 200 0 0;");
        due(1, 4, "man at 50 200 0 0;");
        due(1, 15, "man ann 50 200 - 1 0;");
        due(1, 6, "judge - 1 0;");
        due(1, 10, "judge x - - 1 0;");
        due(1, 10, "judge x 1 - 1;");
        fine("judge x-1 0;");
        due(1, 13, "parts 1 1 1 1;");
        due(1, 16, "parts 1 1 1 1 1 1;");
        due(1, 8, "waits 10;");
        due(1, 9, "seed 1 ; then");
        due(1, 7, "snow 1;ann");
        due(1, 0, "gust 3;");
    }

    private void tokens() {
        due(1, 4, "man abcdefghi 50 200 0 0;");
        fine("man abcdefgh 50 200 0 0;");
        fine("man hilly 50 200 0 0; man hil 50 200 0 0; man a 50 200 0 0; man seconds 50 200 0 0;");
        due(1, 5, "seed 12345;");
        due(1, 5, "seed 00001;");
        fine("seed 0001;");
        fine("seed9999;snow0;man ann50 200 0 0;");
        due(1, 7, "seed 12a;");
        due(1, 0, "Hill 900 1000 20;");
        due(1, 5, "seed \u00001;");
        due(1, 7, "seed 1;#");
        due(1, 7, "wind = > 4;");
        due(1, 9, "wind = 3 % 4;");
        due(1, 6, "seed 1\u000b;");
        due(1, 6, "seed 1\u00a0;");
        due(1, 6, "seed 1\u00bb;");
        due(1, 0, "seedseed 1;");
        due(1, 0, "ifif");
        due(1, 0, "hillhill");
    }

    private static String men(int n) {
        StringBuilder out = new StringBuilder();
        for (int i = 0; i < n; i++) {
            out.append("man m").append((char) ('a' + i)).append(" 50 200 0 0;");
        }
        return out.toString();
    }

    private static String judges(int n) {
        StringBuilder out = new StringBuilder();
        for (int i = 0; i < n; i++) {
            out.append("judge j").append((char) ('a' + i)).append(" 0 0;");
        }
        return out.toString();
    }

    private void room() {
        fine(men(8) + judges(7));
        due(2, men(8).length(), men(9));
        due(2, men(8).length() + 1, men(8) + " man");
        due(2, judges(7).length(), judges(8));
        due(2, men(2).length() + judges(7).length(), men(2) + judges(7) + "judge judge");
        due(1, men(8).length() + 5, men(8) + "snow man 1;");
        String ifs = "if 1 < 0 then 1 else ";
        fine("wind = " + ifs.repeat(4) + "5;");
        fine("wind = " + ifs.repeat(4) + "5; far = " + ifs.repeat(4) + "5;");
        due(2, 7 + 4 * ifs.length(), "wind = " + ifs.repeat(5) + "5;");
        due(2, 7 + 4 * ifs.length(), "wind = " + ifs.repeat(4) + "if");
        fine("wind = " + "(".repeat(6) + "1" + ")".repeat(6) + ";");
        fine("wind = ((((((1)))))) + ((((((2)))))) * (3);");
        due(2, 13, "wind = " + "(".repeat(7) + "1" + ")".repeat(7) + ";");
        due(2, 25, "wind = (1 + (2 * ((((3 - (4");
        due(2, 25, "wind = (1 + (2 * (((3 - ((4");
        due(1, 13, "wind = ((((((;");
    }

    /** A 401st TOKEN: SYNTAX is less than ROOM at one place. */
    private void tokenRoom() {
        String full = "snow 1;".repeat(130) + "hill 900 1000 20;".repeat(2);
        fine(full);
        fine(full + "   ");
        due(2, full.length(), full + "snow 1;");
        due(2, full.length() + 1, full + " snow");
        due(1, full.length(), full + ";");
        due(1, full.length(), full + "#");
        due(1, full.length(), full + "toolongaword");
        due(1, full.length() - 1, full.substring(0, full.length() - 1) + "snow 1;");
        due(2, 936, "snow 1;".repeat(134));
        due(1, 936, "snow 1;".repeat(133) + "snow ;");
        due(1, 936, "snow 1;".repeat(133) + "snow ");
        due(2, 405, "wind = " + "1+".repeat(199) + "1;");
        fine("wind = " + "1+".repeat(198) + "1;");
    }

    private void twice() {
        due(3, 24, "man ann 50 200 0 0; man ann 50 200 0 0;");
        due(3, 26, "man ann 50 200 0 0; judge ann 0 0;");
        due(3, 18, "judge ann 0 0;man ann 50 200 0 0;");
        due(3, 20, "judge ann 0 0;judge ann 0 0;");
        fine("man ann 50 200 0 0; man an 50 200 0 0; man anna 50 200 0 0; judge anb 0 0;");
    }

    private void wrong() {
        String[] tells = {"hill # 1000 20;", "hill 900 # 20;", "hill 900 1000 #;", "parts # 1 1 1 1;", "parts 1 1 1 1 #;",
            "man a # 200 0 0;", "man a 50 # 0 0;", "man a 50 200 # 0;", "man a 50 200 0 #;", "judge a # 0;", "judge a - # 0;",
            "judge a 0 #;", "snow #;", "gusts #;", "waits # 60;", "waits 10 #;", "gate # 50;", "gate 20 #;", "second #;"};
        int[][] bounds = {{100, 2500}, {100, 2500}, {0, 99}, {0, 9}, {0, 9}, {30, 120}, {100, 300}, {0, 9}, {0, 9}, {0, 9}, {0, 9},
            {0, 9}, {0, 99}, {0, 30}, {0, 30}, {1, 300}, {0, 40}, {0, 99}, {1, 8}};
        for (int i = 0; i < tells.length; i++) {
            int place = tells[i].indexOf('#');
            fine(tells[i].replace("#", "" + bounds[i][0]));
            fine(tells[i].replace("#", "" + bounds[i][1]));
            due(5, place, tells[i].replace("#", "" + (bounds[i][1] + 1)));
            if (bounds[i][0] > 0) {
                due(5, place, tells[i].replace("#", "" + (bounds[i][0] - 1)));
            }
        }
        fine("seed 0;");
        fine("seed 9999;");
        fine("wind = 9999;");
        due(5, 13, "snow 1; snow 100; snow 2;");
    }

    private void order() {
        due(5, 5, "snow 100; snow 100;");
        due(5, 5, "snow 100; man a 50 200 0 0; man a 50 200 0 0;");
        due(3, 23, "man a 50 200 0 0;  man a 50 999 0 0; snow 100;");
        due(5, 9, "man a 50 999 0 0;  man a 50 200 0 0; snow 100;");
        due(1, 10, "snow 100; now 3;");
        due(1, 9, "snow 100;x");
        due(2, 7 + 6, "wind = (((((((1; snow 100");
        due(2, 22, "snow 100; far = (((((((1)))))));");
        due(1, 8, "snow 100");
        WindJump x = new WindJump();
        check.about("place of the latest read");
        check.due("a fault", 1, Check.read(x, "   ;"));
        check.due("place", 3, x.place());
        check.due("another", 5, Check.read(x, "seed 1; snow 100;"));
        check.due("place", 13, x.place());
        check.due("none", 0, Check.read(x, "seed 1;"));
        check.due("place", -1, x.place());
    }

    private void bytes() {
        String fit = "seed 1;".repeat(100);
        fine(fit + " ".repeat(2000 - fit.length()));
        due(1, 2000, " ".repeat(1993) + "seed 12");
        fine(" ".repeat(1993) + "seed 1;");
        due(1, 1999, " ".repeat(1992) + "seed 1;;");
    }
}
