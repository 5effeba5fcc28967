import java.io.PrintWriter;
import java.io.StringWriter;
import java.util.Map;
import java.util.Optional;
import java.util.Set;
import java.util.TreeMap;
import java.util.TreeSet;
import java.util.regex.Matcher;
import java.util.regex.Pattern;
import java.util.spi.ToolProvider;

/**
 * How deep calls go that are no recursion, which methods call themselves, and what is called of the library: seen in
 * the compiled classes.
 */
public final class DepthTest {
    private static final int DEEPEST = 8;
    private static final Set<String> LIBRARY = Set.of("java/lang/Object.<init>", "java/lang/String.length",
            "java/lang/String.charAt", "java/lang/Math.max", "java/lang/Math.min", "java/lang/Integer.bitCount",
            "java/lang/System.arraycopy");
    private static final Pattern CALLED = Pattern.compile("// (?:Interface)?Method (?:([\\w$/]+)\\.)?\"?([\\w$<>]+)\"?:");
    private static final Pattern METHOD = Pattern.compile("  \\S.*?([\\w$]+)\\(.*\\);");

    private final Map<String, Set<String>> calls = new TreeMap<>();

    public static void main(String[] args) {
        Optional<ToolProvider> javap = ToolProvider.findFirst("javap");
        if (javap.isEmpty()) {
            System.out.println("DepthTest: this machine can't show classes; nothing was looked at");
            return;
        }
        DepthTest test = new DepthTest();
        test.look(javap.get(), LogKeepers.class);
        for (Class<?> nested : LogKeepers.class.getDeclaredClasses()) {
            test.look(javap.get(), nested);
        }
        Check check = new Check("DepthTest");
        check.due("methods found", test.calls.size() > 100, true);
        for (String method : test.calls.keySet()) {
            String chain = test.deepest(method, new TreeSet<>());
            check.due("too deep: " + chain, chain.split(" > ").length <= DEEPEST, true);
            boolean search = method.equals("LogKeepers$History.canGoOn");
            check.due(method + " calls itself", test.comesBackTo(method), search);
            for (String called : test.calls.get(method)) {
                boolean known = called.startsWith("LogKeepers") || LIBRARY.contains(called);
                check.due(method + " calls " + called + ", which may be called", known, true);
            }
        }
        check.finish();
    }

    private void look(ToolProvider javap, Class<?> shown) {
        StringWriter out = new StringWriter();
        PrintWriter printer = new PrintWriter(out);
        javap.run(printer, printer, "-p", "-c", "-cp", System.getProperty("java.class.path"), shown.getName());
        printer.flush();
        String method = "";
        for (String line : out.toString().split("\\R")) {
            Matcher begins = METHOD.matcher(line);
            Matcher called = CALLED.matcher(line);
            if (begins.matches()) {
                boolean makes = begins.group(1).equals(shown.getName());
                method = shown.getName() + "." + (makes ? "<init>" : begins.group(1));
                calls.put(method, new TreeSet<>());
            } else if (called.find() && calls.containsKey(method)) {
                String owner = called.group(1) == null ? shown.getName() : called.group(1);
                calls.get(method).add(owner + "." + called.group(2));
            }
        }
    }

    private String deepest(String method, Set<String> open) {
        String best = "";
        int depth = 0;
        open.add(method);
        for (String next : calls.getOrDefault(method, Set.of())) {
            if (!open.contains(next)) {
                String chain = deepest(next, open);
                int its = chain.split(" > ").length;
                if (its > depth) {
                    depth = its;
                    best = chain;
                }
            }
        }
        open.remove(method);
        return depth == 0 ? method : method + " > " + best;
    }

    private boolean comesBackTo(String method) {
        Set<String> reached = new TreeSet<>(calls.get(method));
        for (int before = -1; before < reached.size();) {
            before = reached.size();
            for (String one : reached.toArray(new String[0])) {
                reached.addAll(calls.getOrDefault(one, Set.of()));
            }
        }
        return reached.contains(method);
    }
}
