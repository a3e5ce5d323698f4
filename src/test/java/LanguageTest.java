import java.io.IOException;
import java.lang.reflect.Field;
import java.lang.reflect.Method;
import java.lang.reflect.Modifier;
import java.nio.file.Files;
import java.nio.file.Path;
import java.util.ArrayList;
import java.util.Arrays;
import java.util.List;
import java.util.Map;
import java.util.Set;
import java.util.TreeMap;
import java.util.TreeSet;
import java.util.regex.Matcher;
import java.util.regex.Pattern;

// The rules of ../shared/LANGUAGE.md, as far as the class and its text show them. Where a rule leaves
// more than the class needs (as with loops), the narrower form that the class keeps to is asked for.
public final class LanguageTest {
    private static final Path SOURCE = Path.of("src/main/java/TileHands.java");

    private static final Set<String> TYPES = Set.of("int", "long", "short", "byte", "char", "boolean", "void",
            "int[]", "long[]", "short[]", "byte[]", "char[]", "boolean[]");

    private static final Map<Integer, Set<String>> BARRED = Map.of(
            1, Set.of("package", "interface", "enum", "record", "extends", "implements"),
            2, Set.of("float", "double", "var"),
            3, Set.of("import", "super", "equals", "hashCode", "toString", "getClass", "clone", "finalize", "notify",
                    "notifyAll", "wait"),
            4, Set.of("null"),
            6, Set.of("throw", "throws", "try", "catch", "finally", "synchronized", "assert", "instanceof"));

    private static final Pattern WORD = Pattern.compile("[A-Za-z_$][A-Za-z_$0-9]*");
    private static final Pattern HEAD = Pattern.compile(
            "^    (?:public|private) (?:static )?(?:(?:int|long|boolean|void) )?([A-Za-z]+)\\([^)]*\\) \\{$");
    private static final Pattern COUNTED_LOOP = Pattern.compile(
            "for \\(int (\\w+) = \\w+; \\1 <=? \\w+; \\1\\+\\+\\) \\{");
    private static final Pattern ARRAY_FIELD = Pattern.compile(
            "    private final (int|long)\\[\\] \\w+ = new \\1\\[[A-Z_0-9]+\\];");

    private static int wrong = 0;

    private static void fail(int rule, String what) {
        wrong++;
        System.out.println("LANGUAGE.md " + rule + ": " + what);
    }

    private static String withoutComments(String text) {
        return text.replaceAll("(?s)/\\*.*?\\*/", "").replaceAll("//[^\n]*", "");
    }

    private static void words(String text) {
        int classes = 0;
        Matcher word = WORD.matcher(text);
        while (word.find()) {
            String name = word.group();
            classes += name.equals("class") ? 1 : 0;
            BARRED.forEach((rule, barred) -> {
                if (barred.contains(name)) {
                    fail(rule, "the word " + name);
                }
            });
            // Constants are in capitals alone; the name of a class of the library is not.
            if (name.matches("[A-Z].*[a-z].*") && !name.equals("TileHands")) {
                fail(3, "the class " + name);
            }
        }
        if (classes != 1) {
            fail(1, classes + " classes");
        }
        for (String sign : new String[] {"->", "::", "\"", "@"}) {
            if (text.contains(sign)) {
                fail(6, "the sign " + sign);
            }
        }
    }

    private static void arrays(String text) {
        for (String line : text.split("\n")) {
            if (line.matches(".*\\bnew\\b.*") && !ARRAY_FIELD.matcher(line).matches()) {
                fail(4, "made outside a field's initialiser: " + line.trim());
            }
        }
    }

    private static void loops(String text) {
        for (String line : text.split("\n")) {
            if (line.matches(".*\\b(while|do)\\b.*")
                    || line.matches(".*\\bfor\\b.*") && !COUNTED_LOOP.matcher(line).find()) {
                fail(8, "no counter against a bound: " + line.trim());
            }
        }
    }

    private static void fields() {
        int beside = 0;
        for (Field field : TileHands.class.getDeclaredFields()) {
            String type = field.getType().getSimpleName();
            if (!TYPES.contains(type)) {
                fail(2, "field " + field.getName() + " is of type " + type);
            }
            if (!Modifier.isStatic(field.getModifiers())) {
                beside++;
            } else if (!Modifier.isFinal(field.getModifiers()) || !type.matches("int|long")) {
                fail(5, "static field " + field.getName());
            }
        }
        if (beside > 40) {
            fail(10, beside + " fields");
        }
    }

    private static void methods() {
        Set<String> publicNames = new TreeSet<>();
        Set<String> privateNames = new TreeSet<>();
        for (Method method : TileHands.class.getDeclaredMethods()) {
            (Modifier.isPublic(method.getModifiers()) ? publicNames : privateNames).add(method.getName());
            List<Class<?>> types = new ArrayList<>(Arrays.asList(method.getParameterTypes()));
            if (types.size() > 7) {
                fail(10, method.getName() + " takes " + types.size() + " parameters");
            }
            if (method.getReturnType().isArray()) {
                fail(4, method.getName() + " answers an array");
            }
            types.add(method.getReturnType());
            for (Class<?> type : types) {
                if (!TYPES.contains(type.getSimpleName())) {
                    fail(2, method.getName() + " uses type " + type.getSimpleName());
                }
            }
        }
        privateNames.retainAll(publicNames);
        for (String name : privateNames) {
            fail(1, "private " + name + " bears the name of a public method");
        }
    }

    /** The lines of each method and of the constructor, by name. */
    private static Map<String, List<String>> bodies(String text) {
        Map<String, List<String>> bodies = new TreeMap<>();
        List<String> body = null;
        for (String line : text.split("\n")) {
            Matcher head = HEAD.matcher(line);
            if (head.matches()) {
                body = new ArrayList<>();
                bodies.put(head.group(1), body);
            } else if (line.equals("    }")) {
                body = null;
            } else if (body != null) {
                body.add(line);
            }
        }
        int known = TileHands.class.getDeclaredMethods().length + 1;
        if (bodies.size() != known) {
            fail(1, bodies.size() + " methods found in the text, due is " + known);
        }
        return bodies;
    }

    private static Set<String> called(Map<String, List<String>> bodies, String caller) {
        String body = String.join("\n", bodies.get(caller));
        Set<String> called = new TreeSet<>();
        for (String name : bodies.keySet()) {
            Matcher call = Pattern.compile("\\b" + name + "\\(").matcher(body);
            while (call.find()) {
                called.add(name);
                noCallInside(bodies, name, arguments(body, call.end()));
            }
        }
        return called;
    }

    private static String arguments(String body, int from) {
        int open = 1;
        int end = from;
        while (open > 0) {
            char sign = body.charAt(end);
            open += sign == '(' ? 1 : sign == ')' ? -1 : 0;
            end++;
        }
        return body.substring(from, end);
    }

    private static void noCallInside(Map<String, List<String>> bodies, String name, String arguments) {
        for (String other : bodies.keySet()) {
            if (arguments.matches("(?s).*\\b" + other + "\\(.*")) {
                fail(10, "a call of " + other + " inside the arguments of " + name);
            }
        }
    }

    private static void calls(Map<String, List<String>> bodies) {
        Map<String, Set<String>> graph = new TreeMap<>();
        for (String name : bodies.keySet()) {
            graph.put(name, called(bodies, name));
            if (bodies.get(name).size() > 60) {
                fail(10, name + " is " + bodies.get(name).size() + " lines long");
            }
        }
        // Each round moves one call deeper; with recursion it would never come to an end.
        Set<String> reached = new TreeSet<>(graph.keySet());
        for (int depth = 1; !reached.isEmpty(); depth++) {
            if (depth > 6) {
                fail(8, "calls go deeper than six, or around: " + reached);
                return;
            }
            Set<String> deeper = new TreeSet<>();
            for (String name : reached) {
                deeper.addAll(graph.get(name));
            }
            reached = deeper;
        }
    }

    public static void main(String[] args) throws IOException {
        String text = withoutComments(Files.readString(SOURCE));
        words(text);
        arrays(text);
        loops(text);
        fields();
        methods();
        calls(bodies(text));
        System.out.println(wrong == 0 ? "the rules are kept" : wrong + " rules are not kept");
        if (wrong != 0) {
            System.exit(1);
        }
    }
}
