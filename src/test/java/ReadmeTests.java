import java.lang.reflect.Method;
import java.lang.reflect.Modifier;
import java.nio.file.Files;
import java.nio.file.Path;
import java.util.Arrays;
import java.util.List;
import java.util.regex.Matcher;
import java.util.regex.Pattern;

/** README.md: that its table has every call of the face, and that each call of its examples answers as it says. */
public final class ReadmeTests {
    private static final Checks check = new Checks();
    private static final Pattern CALL = Pattern.compile("x\\.(\\w+)\\(([^)]*)\\);\\s+// (-?\\d+)\\b.*");
    private static final Pattern FEED = Pattern.compile("for \\(char c : \"([^\"]*)\"\\.toCharArray\\(\\)\\) x\\.feed\\(c\\);");
    private static final Pattern ROW = Pattern.compile("\\| `(\\w+)\\(([^)]*)\\)` \\|.*");

    public static void main(String[] args) throws Exception {
        List<String> lines = Files.readAllLines(Path.of("README.md"));
        rows(lines);
        examples(lines);
        refusals(String.join("\n", lines));
        check.end();
    }

    private static void rows(List<String> lines) {
        check.group("the table of calls");
        long rows = lines.stream().filter(line -> ROW.matcher(line).matches()).count();
        Method[] face = Arrays.stream(WindowsGive.class.getDeclaredMethods())
                .filter(method -> Modifier.isPublic(method.getModifiers())).toArray(Method[]::new);
        check.due("rows", rows, face.length);
        for (Method method : face) {
            check.holds("a row of " + method.getName(), lines.stream().anyMatch(line -> isRowOf(method, line)));
        }
    }

    private static boolean isRowOf(Method method, String line) {
        Matcher row = ROW.matcher(line);
        return row.matches() && row.group(1).equals(method.getName())
                && words(row.group(2)).length == method.getParameterCount();
    }

    private static String[] words(String list) {
        return list.isBlank() ? new String[0] : list.trim().split("\\s*,\\s*");
    }

    /** Each block of Java begins with a new object, and has a call with its answer in every other line. */
    private static void examples(List<String> lines) {
        WindowsGive x = null;
        boolean inside = false;
        int blocks = 0;
        for (String line : lines) {
            if (line.startsWith("```")) {
                inside = line.equals("```java");
                if (inside) {
                    blocks++;
                    check.group("example " + blocks);
                }
            } else if (inside && line.equals("WindowsGive x = new WindowsGive();")) {
                x = new WindowsGive();
            } else if (inside) {
                example(x, line);
            }
        }
        check.holds("there are examples", blocks > 0);
    }

    private static void example(WindowsGive x, String line) {
        Matcher feed = FEED.matcher(line);
        Matcher call = CALL.matcher(line);
        if (feed.matches()) {
            Make.feedAll(x, feed.group(1));
        } else if (call.matches()) {
            int[] given = Arrays.stream(words(call.group(2).replace("WindowsGive.NONE", "-1")))
                    .mapToInt(Integer::parseInt).toArray();
            check.due(line.trim(), Probe.call(x, call.group(1), given), Long.parseLong(call.group(3)));
        } else {
            check.holds("that this can be called: " + line, false);
        }
    }

    private static void refusals(String text) {
        check.group("the constants");
        check.holds("NONE", text.contains("`NONE` is " + WindowsGive.NONE + " "));
        check.holds("BAD", text.contains("`BAD` " + WindowsGive.BAD + " "));
        check.holds("STATE", text.contains("`STATE` " + WindowsGive.STATE + " "));
        check.holds("FULL", text.contains("`FULL` " + WindowsGive.FULL + " "));
        check.holds("NO", text.contains("`NO` " + WindowsGive.NO + ";"));
    }
}
