import java.lang.reflect.InvocationTargetException;
import java.util.ArrayList;
import java.util.Arrays;
import java.util.List;

/** Calls by name, and all that an object tells of its state. */
final class Probe {
    private static final int MOST_IN_A_SHEET = 14;

    private final WindowsGive x;
    private final List<Long> answers = new ArrayList<>();

    private Probe(WindowsGive x) {
        this.x = x;
    }

    static long call(WindowsGive x, String name, int... args) {
        Class<?>[] ints = new Class<?>[args.length];
        Arrays.fill(ints, int.class);
        try {
            Object[] given = Arrays.stream(args).boxed().toArray();
            return ((Number) WindowsGive.class.getMethod(name, ints).invoke(x, given)).longValue();
        } catch (InvocationTargetException e) {
            throw new IllegalStateException(told(name, args) + " threw " + e.getCause(), e);
        } catch (ReflectiveOperationException e) {
            throw new IllegalStateException(told(name, args) + " can't be called", e);
        }
    }

    static String told(String name, int... args) {
        String list = Arrays.toString(args);
        return name + "(" + list.substring(1, list.length() - 1) + ")";
    }

    /**
     * Up to some 350 answers that tell all of the state (of sheets up to 14 items). An object that has had 150 calls
     * stays under 512 by them; it is of no further use.
     */
    static List<Long> of(WindowsGive x) {
        Probe probe = new Probe(x);
        probe.house();
        probe.sheets();
        probe.texts();
        probe.ask("back");
        probe.house();
        return probe.answers;
    }

    private long ask(String name, int... args) {
        long answer = call(x, name, args);
        answers.add(answer);
        return answer;
    }

    private void house() {
        for (int what = 0; what < 5; what++) {
            ask("count", what);
        }
        days();
        for (int p = 0; p <= x.count(0); p++) {
            for (int what = 1; what < 7; what++) {
                ask("told", p, what);
            }
        }
    }

    private void days() {
        for (int d = 0; d < 32; d++) {
            ask("told", d, 0);
        }
    }

    /** Sorts and sizes, then the items, as pairs of days and weathers. */
    private void sheets() {
        for (int s = 0; s < 4; s++) {
            for (int n = 1; n <= MOST_IN_A_SHEET; n++) {
                ask("copy", s, 0, s, 0, n);
            }
            for (int sort = 0; sort < 3; sort++) {
                if (ask("weathers", s, sort, 0, 0) == 0) {
                    ask("weathers", s, sort, 0, MOST_IN_A_SHEET / 2);
                    days();
                }
            }
        }
    }

    /** What stands on the tape ahead of a price, and what each text tells. */
    private void texts() {
        Make.feedAll(x, "price 7;");
        ask("text");
        for (int text = 0; text < x.count(1); text++) {
            ask("force", text);
            ask("cost", 0, 40, 2);
            ask("wettest", 1, 1);
            ask("views", 0, 1, 0);
        }
    }
}
