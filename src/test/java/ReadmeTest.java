import java.io.IOException;
import java.lang.reflect.Method;
import java.lang.reflect.Modifier;
import java.net.URL;
import java.net.URLClassLoader;
import java.nio.file.Files;
import java.nio.file.Path;
import java.util.ArrayList;
import java.util.List;
import java.util.Set;
import java.util.TreeSet;
import java.util.regex.Matcher;
import java.util.regex.Pattern;
import java.util.spi.ToolProvider;
import java.util.stream.Stream;

/**
 * The java pieces of README.md, made into one program: each call answers what stands behind it. A piece that begins
 * with a new object is run by itself, one that doesn't goes on with the object of the piece ahead.
 */
public final class ReadmeTest {
    private static final Pattern PIECE = Pattern.compile("(?s)```java\n(.*?)```");
    private static final Pattern MADE = Pattern.compile("LogKeepers x = new LogKeepers\\(\\);");
    private static final Pattern CALL =
            Pattern.compile("((?:x\\.(\\w+)|tell)\\(.*?\\)); +// (NONE|GAP|true|false|-?\\d+)(?:[:,] .*)?");
    private static final Check CHECK = new Check("ReadmeTest");

    private final StringBuilder helpers = new StringBuilder();
    private final StringBuilder body = new StringBuilder();
    private final Set<String> shown = new TreeSet<>();
    private int calls;

    /** Called by the program made of the pieces. */
    public static void due(String call, int got, int want) {
        CHECK.due("README.md: " + call, got, want);
    }

    /** Called by the program made of the pieces. */
    public static void due(String call, boolean got, boolean want) {
        CHECK.due("README.md: " + call, got, want);
    }

    public static void main(String[] args) throws Exception {
        ReadmeTest test = new ReadmeTest();
        Matcher piece = PIECE.matcher(Files.readString(Path.of("README.md")));
        while (piece.find()) {
            test.take(piece.group(1));
        }
        CHECK.due("calls shown are many", test.calls > 100, true);
        for (Method method : LogKeepers.class.getDeclaredMethods()) {
            if (Modifier.isPublic(method.getModifiers())) {
                CHECK.due(method.getName() + " is shown", test.shown.contains(method.getName()), true);
            }
        }
        test.run();
        CHECK.finish();
    }

    private void take(String piece) {
        if (piece.startsWith("static ")) {
            helpers.append(piece);
            Matcher used = Pattern.compile("x\\.(\\w+)\\(").matcher(piece);
            while (used.find()) {
                shown.add(used.group(1));
            }
            return;
        }
        for (String line : piece.split("\n")) {
            takeLine(line);
        }
    }

    private void takeLine(String line) {
        if (MADE.matcher(line).matches()) {
            body.append(body.length() == 0 ? "" : "}\n").append("{\n").append(line).append('\n');
            return;
        }
        Matcher call = CALL.matcher(line);
        if (!call.matches()) {
            CHECK.due("README.md: '" + line + "' shows no call with its answer", 1, 0);
            return;
        }
        calls++;
        if (call.group(2) != null) {
            shown.add(call.group(2));
        }
        String want = call.group(3);
        boolean named = want.equals("NONE") || want.equals("GAP");
        String quoted = call.group(1).replace("\"", "\\\"");
        body.append("ReadmeTest.due(\"").append(quoted).append("\", ").append(call.group(1)).append(", ")
                .append(named ? "LogKeepers." : "").append(want).append(");\n");
    }

    private void run() throws Exception {
        Path home = Files.createTempDirectory("readme");
        try {
            Path source = home.resolve("ReadmePieces.java");
            Files.writeString(source, "public final class ReadmePieces {\n" + helpers
                    + "public static void shown() {\n" + body + "}\n}\n}\n");
            ToolProvider javac = ToolProvider.findFirst("javac").orElseThrow();
            int fault = javac.run(System.out, System.out, "--release", "17", "-d", home.toString(), "-cp",
                    System.getProperty("java.class.path"), source.toString());
            CHECK.due("README.md compiles, or ends with", fault, 0);
            if (fault == 0) {
                try (URLClassLoader loader = new URLClassLoader(new URL[] {home.toUri().toURL()})) {
                    loader.loadClass("ReadmePieces").getMethod("shown").invoke(null);
                }
            }
        } finally {
            remove(home);
        }
    }

    private static void remove(Path home) throws IOException {
        List<Path> files = new ArrayList<>();
        try (Stream<Path> all = Files.list(home)) {
            all.forEach(files::add);
        }
        for (Path file : files) {
            Files.delete(file);
        }
        Files.delete(home);
    }
}
