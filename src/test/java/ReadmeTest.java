import java.io.ByteArrayOutputStream;
import java.io.IOException;
import java.io.PrintStream;
import java.nio.file.Files;
import java.nio.file.Path;
import java.util.ArrayList;
import java.util.List;
import javax.tools.ToolProvider;

/** Compiles and runs the example of README.md: each line that prints must print the first word of its comment. */
public final class ReadmeTest {
    private static final String PRINTS = "System.out.println(";

    public static void main(String[] args) throws Exception {
        Check check = new Check();
        check.about("README.md");
        List<String> example = example();
        List<String> wanted = wanted(example);
        List<String> printed = printed(example);
        check.due("lines that print", wanted.size(), printed.size());
        for (int i = 0; i < wanted.size() && i < printed.size(); i++) {
            check.due("line " + (i + 1) + " that prints", wanted.get(i), printed.get(i));
        }
        check.end("ReadmeTest");
    }

    /** The lines between the first ```java and the next ```. */
    private static List<String> example() throws IOException {
        List<String> lines = Files.readAllLines(Path.of("README.md"));
        int from = lines.indexOf("```java") + 1;
        int to = from + lines.subList(from, lines.size()).indexOf("```");
        if (from == 0 || to < from) {
            throw new IllegalStateException("README.md has no example");
        }
        return lines.subList(from, to);
    }

    private static List<String> wanted(List<String> example) {
        List<String> out = new ArrayList<>();
        for (String line : example) {
            if (line.startsWith(PRINTS)) {
                String comment = line.contains("// ") ? line.substring(line.indexOf("// ") + 3) : "";
                out.add(comment.split("[ :]", 2)[0]);
            }
        }
        return out;
    }

    private static List<String> printed(List<String> example) throws Exception {
        Path room = Files.createTempDirectory("readme");
        Path source = room.resolve("Example.java");
        try {
            Files.writeString(source, "public class Example { public static void main(String[] args) {\n"
                + String.join("\n", example) + "\n} }\n");
            return run(room, source);
        } finally {
            Files.deleteIfExists(room.resolve("Example.class"));
            Files.deleteIfExists(source);
            Files.delete(room);
        }
    }

    private static List<String> run(Path room, Path source) throws Exception {
        int status = ToolProvider.getSystemJavaCompiler().run(null, null, null, "-cp",
            System.getProperty("java.class.path"), "-d", room.toString(), source.toString());
        if (status != 0) {
            throw new IllegalStateException("the example of README.md does not compile");
        }
        ByteArrayOutputStream bytes = new ByteArrayOutputStream();
        PrintStream screen = System.out;
        ClassLoader loader = new java.net.URLClassLoader(new java.net.URL[] {room.toUri().toURL()});
        try {
            System.setOut(new PrintStream(bytes, true));
            loader.loadClass("Example").getMethod("main", String[].class).invoke(null, (Object) new String[0]);
        } finally {
            System.setOut(screen);
        }
        return bytes.toString().lines().toList();
    }
}
