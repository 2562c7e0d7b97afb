import java.io.IOException;
import java.lang.reflect.Method;
import java.nio.file.Files;
import java.nio.file.Path;
import java.util.List;
import java.util.regex.Matcher;
import java.util.regex.Pattern;

/** The Java lines of README.md, one behind another on one object: each answers what stands behind it. */
public final class ReadmeTest {
    private static final Path README = Path.of("README.md");
    private static final Pattern NEW = Pattern.compile("LivedAgain x = new LivedAgain\\(\\);");
    private static final Pattern TEXT = Pattern.compile("for \\(char c : \"([^\"]*)\"\\.toCharArray\\(\\)\\) \\{");
    private static final Pattern FEED = Pattern.compile("    x\\.feed\\(c\\);|\\}");
    private static final Pattern CALL = Pattern.compile("x\\.(\\w+)\\(([^)]*)\\);\\s+// (-?\\d+): .*");

    private static LivedAgain x;
    private static int calls = 0;
    private static int wrong = 0;

    public static void main(String[] args) throws IOException, ReflectiveOperationException {
        boolean inJava = false;
        for (String line : Files.readAllLines(README)) {
            if (line.startsWith("```")) {
                inJava = line.equals("```java");
            } else if (inJava) {
                runLine(line);
            }
        }
        if (calls == 0) {
            complain("no call is shown");
        }
        checkTold();
        System.out.println(wrong == 0 ? "readme: " + calls + " calls answer so" : "readme: " + wrong + " lines wrong");
        if (wrong != 0) {
            System.exit(1);
        }
    }

    private static void complain(String what) {
        wrong++;
        System.out.println("readme: " + what);
    }

    private static void runLine(String line) throws ReflectiveOperationException {
        Matcher text = TEXT.matcher(line);
        Matcher call = CALL.matcher(line);
        if (NEW.matcher(line).matches()) {
            x = new LivedAgain();
        } else if (text.matches()) {
            for (char c : text.group(1).toCharArray()) {
                x.feed(c);
            }
        } else if (call.matches()) {
            long got = answer(call.group(1), call.group(2));
            calls++;
            if (got != Long.parseLong(call.group(3))) {
                complain(line + " answered " + got);
            }
        } else if (!FEED.matcher(line).matches()) {
            complain("a line that is not understood: " + line);
        }
    }

    private static long answer(String name, String inside) throws ReflectiveOperationException {
        String[] told = inside.isEmpty() ? new String[0] : inside.split(", ");
        Object[] values = new Object[told.length];
        Class<?>[] types = new Class<?>[told.length];
        for (int i = 0; i < told.length; i++) {
            boolean truth = told[i].equals("true") || told[i].equals("false");
            types[i] = truth ? boolean.class : int.class;
            values[i] = truth ? (Object) told[i].equals("true") : (Object) Integer.parseInt(told[i]);
        }
        Method m = LivedAgain.class.getMethod(name, types);
        return ((Number) m.invoke(x, values)).longValue();
    }

    /** How the tests are run is told, and each test is named. */
    private static void checkTold() throws IOException {
        String whole = Files.readString(README);
        for (String due : List.of("## How to use it", "## How to run its tests", ".ci/run", "512 calls")) {
            if (!whole.contains(due)) {
                complain("it does not say: " + due);
            }
        }
        try (var files = Files.list(Path.of("src/test/java"))) {
            for (Path file : files.sorted().toList()) {
                String name = file.getFileName().toString().replace(".java", "");
                if (!whole.contains("- `" + name + "`:")) {
                    complain("it does not name " + name);
                }
            }
        }
    }
}
