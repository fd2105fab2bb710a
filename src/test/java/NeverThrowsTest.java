import java.lang.reflect.InvocationTargetException;
import java.lang.reflect.Method;
import java.lang.reflect.Modifier;
import java.util.ArrayList;
import java.util.Arrays;
import java.util.Comparator;
import java.util.List;
import java.util.Random;

/** No call may ever throw, for any arguments in any state: each method with any ints, behind texts of any bytes. */
public final class NeverThrowsTest {
    private static final int[] EDGES = {Integer.MIN_VALUE, Integer.MIN_VALUE + 1, -10001, -10000, -10, -9, -2, -1, 0, 1, 2, 3, 4, 5, 7,
        8, 9, 10, 11, 16, 17, 20, 30, 31, 40, 41, 60, 61, 999, 1000, 2000, 9999, 10000, 99999, 100000, Integer.MAX_VALUE - 1,
        Integer.MAX_VALUE};
    private static final String[] PIECES = {"hill 900 1000 20;", "wind = ", "far = ", "gives = ", "style = ", "goes = ", "if ", " < ",
        " then ", " else ", "at", " gust ", "late", "(", ")", "((((((", "))))))", " / 0", "9999*9999", ";", "man a 50 200 9 0;",
        "man b 60 210 3 1;", "judge c 2 1;", "judge d - 3 1;", "waits 0 1;", "waits 30 300;", "second 1;", "gusts 30;", "snow 99;",
        "parts 0 0 0 0 0;", "gate 0 99;", "\n", "#", "\u00ff", "123", "12345", "abcdefghi"};

    private final Check check = new Check();
    private final Random random = new Random(20261119);
    private final List<Method> methods = new ArrayList<>();

    public static void main(String[] args) throws Exception {
        NeverThrowsTest test = new NeverThrowsTest();
        test.run();
        test.check.end("NeverThrowsTest");
    }

    private void run() throws Exception {
        for (Method method : WindJump.class.getDeclaredMethods()) {
            if (Modifier.isPublic(method.getModifiers())) {
                methods.add(method);
            }
        }
        methods.sort(Comparator.comparing(Method::getName));
        for (int n = 0; n < 400; n++) {
            check.about("object " + n);
            use(new WindJump());
        }
    }

    private void use(WindJump x) throws Exception {
        for (int calls = 0; calls < 512; calls++) {
            if (calls % 60 == 0) {
                Check.feed(x, text());
                x.read();
            }
            Method method = methods.get(random.nextInt(methods.size()));
            Object[] arguments = new Object[method.getParameterCount()];
            for (int i = 0; i < arguments.length; i++) {
                arguments[i] = method.getParameterTypes()[i] == int.class ? (Object) number() : random.nextBoolean();
            }
            check.due(method.getName() + Arrays.toString(arguments) + " threw", false, threw(x, method, arguments));
        }
    }

    private static boolean threw(WindJump x, Method method, Object[] arguments) throws Exception {
        try {
            method.invoke(x, arguments);
            return false;
        } catch (InvocationTargetException e) {
            return true;
        }
    }

    private int number() {
        switch (random.nextInt(4)) {
            case 0: return EDGES[random.nextInt(EDGES.length)];
            case 1: return random.nextInt();
            default: return random.nextInt(12) - 1;
        }
    }

    private String text() {
        StringBuilder out = new StringBuilder();
        if (random.nextInt(3) > 0) {
            out.append("man m 50 200 9 0; man n 60 210 9 1; judge j 2 0; judge k - 2 1; judge l 0 0; gusts 30; waits 4 9;");
        }
        for (int n = random.nextInt(3) == 0 ? random.nextInt(60) : 0; n > 0; n--) {
            out.append(random.nextInt(20) == 0 ? "" + (char) random.nextInt(256) : PIECES[random.nextInt(PIECES.length)]);
        }
        return out.length() > 1000 ? out.substring(0, 1000) : out.toString();
    }
}
