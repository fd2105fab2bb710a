import com.sun.management.ThreadMXBean;
import java.lang.management.ManagementFactory;
import java.lang.reflect.Array;
import java.lang.reflect.Field;
import java.lang.reflect.Modifier;
import java.util.ArrayDeque;
import java.util.Arrays;
import java.util.Collections;
import java.util.IdentityHashMap;
import java.util.Set;

/** LANGUAGE.md's room: what an object holds is made by its constructor, and no call makes anything more. */
public final class RoomTest {
    /** How much one object may take of the room of some 600,000 objects and 7.3 million fields and elements. */
    private static final int MOST_OBJECTS = 6_000;
    private static final int MOST_CELLS = 73_000;

    private final Check check = new Check();
    private int cells;

    public static void main(String[] args) throws Exception {
        RoomTest test = new RoomTest();
        test.held();
        if (ManagementFactory.getThreadMXBean() instanceof ThreadMXBean threads && threads.isThreadAllocatedMemoryEnabled()) {
            test.madeByCalls(threads);
        } else {
            System.out.println("this Java does not count what a call makes");
        }
        test.check.end("RoomTest");
    }

    private void held() throws Exception {
        check.about("the room: what an object holds");
        int objects = reached(new WindJump());
        System.out.println("one object holds " + objects + " objects and arrays, " + cells + " fields and elements");
        check.due("objects within " + MOST_OBJECTS, true, objects <= MOST_OBJECTS);
        check.due("fields and elements within " + MOST_CELLS, true, cells <= MOST_CELLS);
        WindJump used = dear();
        cells = 0;
        check.due("as many behind a text and calls", objects, reached(used));
    }

    private int reached(Object root) throws Exception {
        Set<Object> seen = Collections.newSetFromMap(new IdentityHashMap<>());
        ArrayDeque<Object> open = new ArrayDeque<>();
        open.add(root);
        while (!open.isEmpty()) {
            Object o = open.pop();
            if (seen.add(o)) {
                visit(o, open);
            }
        }
        return seen.size();
    }

    private void visit(Object o, ArrayDeque<Object> open) throws Exception {
        if (o.getClass().isArray()) {
            cells += Array.getLength(o);
            for (int i = 0; i < Array.getLength(o) && !o.getClass().getComponentType().isPrimitive(); i++) {
                open.add(Array.get(o, i));
            }
            return;
        }
        for (Field field : o.getClass().getDeclaredFields()) {
            if (!Modifier.isStatic(field.getModifiers())) {
                cells++;
                field.setAccessible(true);
                if (!field.getType().isPrimitive() && field.get(o) != null) {
                    open.add(field.get(o));
                }
            }
        }
    }

    /** A text as large as can be: eight MEN, seven JUDGES, long LAWS; three have started. */
    private static WindJump dear() {
        StringBuilder text = new StringBuilder("waits 30 300;gusts 30;snow 9;");
        for (int i = 0; i < 8; i++) {
            text.append("man m").append((char) ('a' + i)).append(" 5").append(i).append(" 200 9 0;");
        }
        for (int i = 0; i < 7; i++) {
            text.append("judge j").append((char) ('a' + i)).append(" 0 0;");
        }
        String ones = "+1-1".repeat(12);
        text.append("wind=at-at/40*40").append(ones).append(";far=900+gust*2-late").append(ones).append(";goes=0").append(ones)
            .append(";style=170-late+length/999").append(ones).append(";gives=0-gust").append(ones).append(";");
        WindJump x = Check.told(text.toString());
        x.start(3);
        for (int n = 0; n < 20; n++) {
            x.tell(n % 8, n, 900);
        }
        return x;
    }

    private void madeByCalls(ThreadMXBean threads) {
        check.about("rule 12: what a call makes");
        Seen.Call[] calls = {x -> x.crown(0, 10), x -> x.needs(7), x -> x.calm(999, 0), x -> x.gates(1), x -> x.reversed(3),
            x -> x.slips(0, 20, -1), x -> x.start(16), x -> x.undo() ? 1 : 0, x -> x.hold(0) ? 1 : 0, x -> x.restore(0) ? 1 : 0,
            x -> x.wait(0, 3), x -> x.spread(0), x -> x.himself(0), x -> x.without(0, 0), x -> x.harsh(true, 0), x -> x.pause(9),
            x -> x.gate(x.now(2) == 7 ? 8 : 7) ? 1 : 0, x -> x.letGo(30), x -> x.attempt(0, 9, 9, 1), x -> x.count(7),
            x -> x.feed(0x736e6f77, 0x20313b20, 0x736e6f77, 0x20313b20, 0x20202020)};
        check.due("what is made is seen", true, made(threads, x -> new WindJump().count(0), null) > 0);
        long[] least = new long[calls.length];
        Arrays.fill(least, Long.MAX_VALUE);
        WindJump x = dear();
        // The Java machine itself makes something now and then: of many runs the least counts.
        for (int n = 0; n < 420; n++) {
            int call = n % calls.length;
            least[call] = Math.min(least[call], made(threads, calls[call], x));
        }
        for (int call = 0; call < calls.length; call++) {
            check.due("bytes made by call " + call, 0, least[call]);
        }
        long read = Long.MAX_VALUE;
        for (int n = 0; n < 20; n++) {
            Check.feed(x, "man ann 50 200 0 0; far = 900 + gust * (2 - late); judge bob 3 3;");
            read = Math.min(read, made(threads, WindJump::read, x));
        }
        check.due("bytes made by read()", 0, read);
    }

    private static long made(ThreadMXBean threads, Seen.Call call, WindJump x) {
        long thread = Thread.currentThread().getId();
        long before = threads.getThreadAllocatedBytes(thread);
        call.of(x);
        return threads.getThreadAllocatedBytes(thread) - before;
    }
}
