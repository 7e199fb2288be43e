import java.lang.management.ManagementFactory;
import java.lang.reflect.Field;
import java.lang.reflect.Method;
import java.lang.reflect.Modifier;
import java.nio.file.Files;
import java.nio.file.Path;
import java.util.Arrays;
import java.util.HashSet;
import java.util.List;
import java.util.Set;
import java.util.TreeSet;
import java.util.regex.Matcher;
import java.util.regex.Pattern;
import java.util.stream.Collectors;

/** The public face, the rules of LANGUAGE.md that can be seen from outside, and how much a run makes. */
public final class LanguageTests {
    private static final Checks check = new Checks();
    private static final String FACE = "set/3 pane/3 told/2 gives/3 feed/1 text/0 force/1 panes/4 cost/3 earliest/3 loop/2 "
            + "spots/2 brick/4 seen/4 lookNext/4 film/4 water/2 wettest/2 views/3 drawn/2 chance/5 image/0 back/0 "
            + "count/1 sheet/3 cell/3 copy/5 weathers/4 taken/2";

    public static void main(String[] args) throws Exception {
        face();
        String source = Files.readString(Path.of(System.getProperty("windows.source", "src/main/java/WindowsGive.java")));
        words(bare(source));
        sizes(bare(source));
        made();
        check.end();
    }

    private static void face() {
        check.group("rule 1");
        Class<?> c = WindowsGive.class;
        check.holds("public final", Modifier.isPublic(c.getModifiers()) && Modifier.isFinal(c.getModifiers()));
        Set<String> found = new TreeSet<>();
        Set<String> hidden = new HashSet<>();
        for (Method method : c.getDeclaredMethods()) {
            if (Modifier.isPublic(method.getModifiers())) {
                found.add(method.getName() + "/" + method.getParameterCount());
                Class<?> answer = method.getName().equals("chance") ? long.class : int.class;
                check.holds(method.getName() + " answers " + answer, method.getReturnType() == answer);
                check.holds(method.getName() + " takes ints",
                        Arrays.stream(method.getParameterTypes()).allMatch(t -> t == int.class));
            } else {
                check.holds(method + " is private", Modifier.isPrivate(method.getModifiers()));
                hidden.add(method.getName());
            }
        }
        check.holds("the face is " + found, found.equals(new TreeSet<>(List.of(FACE.split(" ")))));
        for (Class<?> inside : c.getDeclaredClasses()) {
            check.holds(inside + " is static", Modifier.isStatic(inside.getModifiers()));
            Arrays.stream(inside.getDeclaredMethods()).forEach(method -> hidden.add(method.getName()));
        }
        for (String name : FACE.replaceAll("/\\d", "").split(" ")) {
            check.holds("nothing else is named " + name, !hidden.contains(name));
        }
        check.holds("one public constructor", c.getDeclaredConstructors().length == 1 && c.getConstructors().length == 1);
        Set<String> open = Arrays.stream(c.getDeclaredFields()).filter(f -> !Modifier.isPrivate(f.getModifiers()))
                .map(Field::getName).collect(Collectors.toSet());
        check.holds("the constants are " + open, open.equals(Set.of("NONE", "BAD", "STATE", "FULL", "NO")));
        check.holds("twelve classes at most", c.getDeclaredClasses().length < 12);
    }

    /** The source without comments and with empty texts. */
    private static String bare(String source) {
        return source.replaceAll("(?s)/\\*.*?\\*/", "").replaceAll("//[^\n]*", "")
                .replaceAll("\"[^\"\n]*\"", "\"\"").replaceAll("'(\\\\.|[^'\\\\])'", "'_'");
    }

    private static void words(String bare) {
        check.group("rules 2 to 6, 13");
        String[] forbidden = {"throw", "throws", "try", "catch", "finally", "synchronized", "assert", "package",
            "double", "float", "Object", "hashCode", "toString", "getClass", "System.nano", "System.current", "Random",
            "Thread", "volatile", "native", "static\\s*\\{", "->", "::", "\\w*Exact", "Exception", "Error",
            "boolean\\[\\]\\[\\]", "protected", "var", "Math\\.random", "Collections", "Map", "Set", "stream"};
        for (String word : forbidden) {
            String edged = word.matches("\\W.*") ? word : "\\b" + word + (word.matches(".*\\w") ? "\\b" : "");
            check.holds("no " + word, !Pattern.compile(edged).matcher(bare).find());
        }
        Matcher imports = Pattern.compile("import ([\\w.*]+);").matcher(bare);
        while (imports.find()) {
            check.holds("import of " + imports.group(1),
                    Set.of("java.util.Arrays", "java.util.List", "java.util.ArrayList").contains(imports.group(1)));
        }
        Matcher statics = Pattern.compile("static (?!final |int |long |boolean |String |void |class )(\\S+)").matcher(bare);
        check.holds("static fields are final", !statics.find());
    }

    private static void sizes(String bare) {
        check.group("rule 11");
        String[] lines = bare.split("\n");
        for (int i = 0; i < lines.length; i++) {
            if (lines[i].matches("\\s+(public|private|static|final|int|long|boolean|void|String|Text|\\w+\\().*\\) \\{")) {
                String indent = lines[i].replaceAll("\\S.*", "");
                int end = i + 1;
                while (end < lines.length && !lines[end].equals(indent + "}")) {
                    end++;
                }
                check.holds(lines[i].trim() + " is short", end - i < 60);
                check.holds(lines[i].trim() + " takes seven at most", lines[i].split(",").length <= 7);
            }
        }
    }

    /** No run may fill the room: what a run of the dearest calls makes, in bytes. */
    private static void made() {
        check.group("rule 12");
        com.sun.management.ThreadMXBean threads = (com.sun.management.ThreadMXBean) ManagementFactory.getThreadMXBean();
        long id = Thread.currentThread().getId();
        dearRun();
        long before = threads.getThreadAllocatedBytes(id);
        dearRun();
        long bytes = threads.getThreadAllocatedBytes(id) - before;
        check.holds("a run makes little, not " + bytes + " bytes", bytes < 60000);
    }

    private static void dearRun() {
        WindowsGive x = new WindowsGive();
        for (int p = 0; p < 8; p++) {
            x.pane(p < 4 ? 3 : 5, 9 + p, 10 * (p % 3) + (p + 1) % 3);
        }
        for (int n = 0; n < 20; n++) {
            x.panes(n, 90 - n, 2, 0);
            x.cost(n, 90 - n, 2);
            x.earliest(n, 2, 2);
            x.loop(n, 2);
            x.spots(n, 2);
            x.brick(n, 90 - n, 2, 0);
            x.brick(n, 90 - n, 2, 1);
            x.film(n % 4, 0, n, 10);
            x.seen(n % 4, 0, n, 1);
            x.seen(n % 4, 0, n, 2);
            x.lookNext(n % 4, 0, n, 0);
            x.sheet(n % 4, 2, 40);
            x.water(1, n);
            x.wettest(1, 0);
            x.views(n, 4, 1);
            x.drawn(1, n);
            x.chance(1, n, 20, 100, 0);
            x.image();
            x.back();
            x.copy(0, 0, 0, 1, 1);
            x.weathers(n % 4, 2, 0, 20);
            x.feed(40);
            x.text();
        }
    }
}
