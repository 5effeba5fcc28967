import java.io.IOException;
import java.lang.reflect.Constructor;
import java.lang.reflect.Field;
import java.lang.reflect.Method;
import java.lang.reflect.Modifier;
import java.nio.file.Files;
import java.nio.file.Path;
import java.util.ArrayList;
import java.util.Arrays;
import java.util.List;
import java.util.Set;
import java.util.TreeSet;
import java.util.regex.Matcher;
import java.util.regex.Pattern;

/** The face of the document, and those rules of the language that can be seen in the source or the class. */
public final class LanguageTest {
    private static final String FACE = "about(int) append(int,int) ask(int) back(int) client(int,int,int) "
            + "command(int,int,int,int,int,int) deliver(int) drop(int) end(int) entry(int,int,int) fall(int) fault(int) "
            + "feed(int,int,int,int,int) fold(int,int) good(int) hush() image(int) judge() keeper(int,int) keepers() "
            + "note(int,int,int,int,int) order(int) peer(int,int,int) read(int,int) rise(int) slot(int,int) "
            + "state(int,int) twice(int)";
    private static final String[] FORBIDDEN = {"throw", "throws", "try", "catch", "finally", "synchronized", "assert",
        "import", "package", "protected", "volatile", "native", "Object", "equals", "hashCode", "toString", "float",
        "double", "while (true)", "->", "::", "Exact"};
    private static final Check CHECK = new Check("LanguageTest");

    public static void main(String[] args) throws IOException {
        face();
        for (Class<?> nested : LogKeepers.class.getDeclaredClasses()) {
            nested(nested);
        }
        CHECK.due("classes", LogKeepers.class.getDeclaredClasses().length <= 11, true);
        source(Files.readString(Path.of("src/main/java/LogKeepers.java")));
        CHECK.finish();
    }

    private static void face() {
        Set<String> seen = new TreeSet<>();
        for (Method method : LogKeepers.class.getDeclaredMethods()) {
            if (Modifier.isPrivate(method.getModifiers()) || method.isSynthetic()) {
                continue;
            }
            CHECK.due(method + " is public", Modifier.isPublic(method.getModifiers()), true);
            boolean truth = method.getName().equals("fall") || method.getName().equals("rise");
            CHECK.due(method + " answers", method.getReturnType() == (truth ? boolean.class : int.class), true);
            String types = Arrays.toString(method.getParameterTypes()).replace("[", "(").replace("]", ")");
            seen.add(method.getName() + types.replace(" ", ""));
        }
        CHECK.due("face " + seen, String.join(" ", seen).equals(FACE), true);
        for (Field field : LogKeepers.class.getDeclaredFields()) {
            boolean constant = field.getName().equals("NONE") || field.getName().equals("GAP");
            int want = constant ? Modifier.PUBLIC : Modifier.PRIVATE;
            int seenAs = field.getModifiers() & (Modifier.PUBLIC | Modifier.PRIVATE | Modifier.PROTECTED);
            CHECK.due(field + " is seen as due", seenAs, want);
            boolean fixed = field.getType() == int.class && Modifier.isStatic(field.getModifiers());
            CHECK.due(field + " is an int of the class", constant && !fixed, false);
            staticIsFinal(field);
        }
        CHECK.due("the class is public and final",
                LogKeepers.class.getModifiers() == (Modifier.PUBLIC | Modifier.FINAL), true);
        Constructor<?>[] makers = LogKeepers.class.getDeclaredConstructors();
        CHECK.due("one constructor", makers.length == 1 && Modifier.isPublic(makers[0].getModifiers()), true);
    }

    private static void staticIsFinal(Field field) {
        boolean loose = Modifier.isStatic(field.getModifiers()) && !Modifier.isFinal(field.getModifiers());
        CHECK.due(field + " is loose", loose, false);
    }

    private static void nested(Class<?> nested) {
        CHECK.due(nested + " is static", Modifier.isStatic(nested.getModifiers()), true);
        int open = nested.getModifiers() & (Modifier.PUBLIC | Modifier.PROTECTED);
        CHECK.due(nested + " is private or package-visible", open, 0);
        Set<String> names = new TreeSet<>();
        for (String call : FACE.split(" ")) {
            names.add(call.substring(0, call.indexOf('(')));
        }
        for (Method method : nested.getDeclaredMethods()) {
            CHECK.due(method + " bears a public one's name", names.contains(method.getName()), false);
            CHECK.due(method + " takes at most seven", method.getParameterCount() <= 7, true);
        }
        int own = 0;
        for (Field field : nested.getDeclaredFields()) {
            staticIsFinal(field);
            own += Modifier.isStatic(field.getModifiers()) ? 0 : 1;
        }
        CHECK.due(nested + " has at most twenty fields", own <= 20, true);
    }

    private static void source(String text) {
        String bare = text.replaceAll("(?s)/\\*.*?\\*/", "").replaceAll("//[^\n]*", "");
        for (String word : FORBIDDEN) {
            boolean wordLike = Character.isLetter(word.charAt(0)) && Character.isLetter(word.charAt(word.length() - 1));
            Pattern pattern = Pattern.compile(wordLike && !word.equals("Exact") ? "\\b" + word + "\\b" : Pattern.quote(word));
            CHECK.due("'" + word + "' stands in the source", pattern.matcher(bare).find(), false);
        }
        for (int i = 0; i < text.length(); i++) {
            if (text.charAt(i) > 126) {
                CHECK.due("a sign beyond 126 at " + i, 1, 0);
            }
        }
        Matcher called = Pattern.compile("\\b([A-Z][a-z]\\w*)\\.(\\w+)\\(").matcher(bare);
        List<String> allowed = List.of("Math.max", "Math.min", "Integer.bitCount", "System.arraycopy");
        while (called.find()) {
            String name = called.group(1) + "." + called.group(2);
            CHECK.due("library call " + name, allowed.contains(name), true);
        }
        lengths(bare);
    }

    private static void lengths(String bare) {
        String[] lines = bare.split("\n");
        List<Integer> open = new ArrayList<>();
        for (int i = 0; i < lines.length; i++) {
            boolean opens = lines[i].matches("\\s+[\\w\\[\\] ]+\\([^;]*\\) \\{") && !lines[i].matches("\\s+(if|for|while|switch|else).*");
            int indent = lines[i].length() - lines[i].stripLeading().length();
            if (opens && (indent == 4 || indent == 8)) {
                open.add(i);
                int end = i;
                while (!lines[end].equals(" ".repeat(indent) + "}")) {
                    end++;
                }
                CHECK.due("the method at line '" + lines[i].strip() + "' is short", end - i <= 60, true);
            }
        }
        CHECK.due("methods found", open.size() > 60, true);
    }
}
