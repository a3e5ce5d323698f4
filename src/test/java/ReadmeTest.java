import java.io.IOException;
import java.lang.reflect.Field;
import java.lang.reflect.Method;
import java.lang.reflect.Modifier;
import java.nio.file.Files;
import java.nio.file.Path;
import java.util.regex.Matcher;
import java.util.regex.Pattern;

// README.md tells the truth: each line of its example answers what stands beside it, and its tables
// and its list of tests name all that there is.
public final class ReadmeTest {
    private static final Pattern EXAMPLE = Pattern.compile("(?s)```java\n(.*?)```");
    private static final Pattern CALL = Pattern.compile("hand\\.(\\w+)\\((-?\\d*)\\); +// (-?\\d+).*");

    private static int wrong = 0;

    private static void fail(String what) {
        wrong++;
        System.out.println("README.md: " + what);
    }

    private static int answer(TileHands hand, String name, String kind) throws ReflectiveOperationException {
        if (kind.isEmpty()) {
            return (int) TileHands.class.getMethod(name).invoke(hand);
        }
        return (int) TileHands.class.getMethod(name, int.class).invoke(hand, Integer.parseInt(kind));
    }

    private static void example(String readme) throws ReflectiveOperationException {
        Matcher example = EXAMPLE.matcher(readme);
        if (!example.find()) {
            fail("there is no example");
            return;
        }
        String[] lines = example.group(1).split("\n");
        if (!lines[0].equals("TileHands hand = new TileHands();")) {
            fail("the example does not begin with a new object: " + lines[0]);
        }
        TileHands hand = new TileHands();
        for (int index = 1; index < lines.length; index++) {
            Matcher call = CALL.matcher(lines[index]);
            if (!call.matches()) {
                fail("no call with its answer: " + lines[index]);
                continue;
            }
            int got = answer(hand, call.group(1), call.group(2));
            if (got != Integer.parseInt(call.group(3))) {
                fail("answered " + got + ": " + lines[index]);
            }
        }
    }

    private static void named(String readme, String what) {
        if (!readme.contains(what)) {
            fail("does not name " + what);
        }
    }

    private static void tables(String readme) throws ReflectiveOperationException {
        for (Method method : TileHands.class.getDeclaredMethods()) {
            if (Modifier.isPublic(method.getModifiers())) {
                named(readme, "\n| `" + method.getName() + (method.getParameterCount() == 0 ? "()` |" : "(kind)` |"));
                named(readme, "\nhand." + method.getName() + "(");
            }
        }
        for (Field field : TileHands.class.getFields()) {
            named(readme, "\n| `" + field.getName() + "` | " + field.get(null) + " |");
        }
    }

    private static void tests(String readme) throws IOException {
        try (var files = Files.list(Path.of("src/test/java"))) {
            files.forEach(file -> named(readme, "\n- `" + file.getFileName().toString().replace(".java", "") + "`:"));
        }
        named(readme, "\n.ci/run\n");
    }

    public static void main(String[] args) throws IOException, ReflectiveOperationException {
        String readme = Files.readString(Path.of("README.md"));
        example(readme);
        tables(readme);
        tests(readme);
        System.out.println(wrong == 0 ? "README.md is right" : wrong + " places of README.md are not right");
        if (wrong != 0) {
            System.exit(1);
        }
    }
}
