import java.util.ArrayList;
import java.util.List;

/** Counts answers that are as due and tells those that are not. */
final class Check {
    private int right;
    private int wrong;
    private String about = "";

    void about(String what) {
        about = what;
    }

    void due(String call, long want, long got) {
        if (want == got) {
            right++;
            return;
        }
        wrong++;
        if (wrong <= 40) {
            System.out.println(about + ": " + call + " answered " + got + ", due is " + want);
        }
    }

    void due(String call, boolean want, boolean got) {
        due(call, want ? 1 : 0, got ? 1 : 0);
    }

    /** Of two long texts only the first piece is told in which they part. */
    void due(String call, String want, String got) {
        int i = 0;
        while (i < want.length() && i < got.length() && want.charAt(i) == got.charAt(i)) {
            i++;
        }
        due(call + ": " + piece(got, i) + " instead of " + piece(want, i), true, want.equals(got));
    }

    private static String piece(String text, int around) {
        return text.substring(Math.max(0, Math.min(around, text.length()) - 30), Math.min(text.length(), around + 20));
    }

    boolean isFine() {
        return wrong == 0;
    }

    /** Ends the test: exit code 1 if anything was wrong. */
    void end(String test) {
        System.out.println(test + ": " + right + " passed, " + wrong + " failed");
        if (wrong > 0 || right == 0) {
            System.exit(1);
        }
    }

    /** Feeds a text (letters of 0 to 255) and takes back what fills up its last twenty bytes. */
    static void feed(WindJump x, String text) {
        for (int[] five : words(text)) {
            x.feed(five[0], five[1], five[2], five[3], five[4]);
        }
        x.back((20 - text.length() % 20) % 20);
    }

    static int read(WindJump x, String text) {
        feed(x, text);
        return x.read();
    }

    /** A new object that was told a text. */
    static WindJump told(String text) {
        WindJump x = new WindJump();
        int fault = read(x, text);
        if (fault != 0) {
            throw new IllegalStateException("fault " + fault + " at " + x.place() + " of " + text);
        }
        return x;
    }

    static List<int[]> words(String text) {
        List<int[]> out = new ArrayList<>();
        for (int from = 0; from < text.length(); from += 20) {
            int[] five = new int[5];
            for (int i = 0; i < 20; i++) {
                char c = from + i < text.length() ? text.charAt(from + i) : ' ';
                five[i / 4] = five[i / 4] << 8 | c;
            }
            out.add(five);
        }
        return out;
    }
}
