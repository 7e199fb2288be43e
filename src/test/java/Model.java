import java.lang.reflect.Array;
import java.util.ArrayDeque;
import java.util.ArrayList;
import java.util.Arrays;
import java.util.Deque;
import java.util.HashSet;
import java.util.List;
import java.util.Map;
import java.util.Set;
import java.util.TreeSet;

/**
 * The document once more, in other ways than the class: kinds are classes, sheets are rows of the host's own sorts,
 * messages spread step by step, every set and every way is tried, texts are read by a machine with states.
 */
final class Model {
    static class Pane implements Cloneable {
        int number, shift, room, into;

        int on(int d) {
            return d + shift;
        }

        boolean lets(int d, int sort) {
            return sort == 0 || sort == 1;
        }

        int leads() {
            return into;
        }

        final boolean passes(int d, int sort) {
            return on(d) >= 0 && on(d) <= 31 && lets(d, sort);
        }

        Pane twin() {
            try {
                return (Pane) clone();
            } catch (CloneNotSupportedException e) {
                throw new IllegalStateException(e);
            }
        }
    }

    static class Lagging extends Pane {
        @Override
        int on(int d) {
            return super.on(d) - number;
        }
    }

    static class Bricked extends Pane {
        @Override
        boolean lets(int d, int sort) {
            return sort == 1;
        }
    }

    static class Cracked extends Lagging {
        @Override
        boolean lets(int d, int sort) {
            return sort == 2 || super.lets(d, sort);
        }
    }

    static class Mirror extends Bricked {
        @Override
        int on(int d) {
            return d;
        }

        @Override
        boolean lets(int d, int sort) {
            return sort == 0;
        }

        @Override
        int leads() {
            return room;
        }
    }

    static class Feast extends Pane {
        @Override
        int on(int d) {
            return d + shift * (number + 1);
        }

        @Override
        boolean lets(int d, int sort) {
            return d % (number + 1) == 0;
        }
    }

    private static final List<Class<? extends Pane>> KINDS =
            List.of(Pane.class, Lagging.class, Bricked.class, Cracked.class, Mirror.class, Feast.class);

    private static Pane ofKind(int kind, Pane like) {
        Pane made;
        switch (kind) {
            case 0: made = new Pane(); break;
            case 1: made = new Lagging(); break;
            case 2: made = new Bricked(); break;
            case 3: made = new Cracked(); break;
            case 4: made = new Mirror(); break;
            default: made = new Feast(); break;
        }
        if (like != null) {
            made.number = like.number;
            made.shift = like.shift;
            made.room = like.room;
            made.into = like.into;
        }
        return made;
    }

    private int[] weather = new int[32];
    private List<Pane> panes = new ArrayList<>();
    private int rule = 0;
    private int[] keptWeather;
    private List<Pane> keptPanes;
    private int keptRule;
    private final StringBuilder tape = new StringBuilder();
    private final List<List<List<String>>> texts = new ArrayList<>();
    private final Object[] sheets = new Object[4];

    Model() {
        texts.add(parts(tokens("costs 1 + number ; wets weather ; price weather * 3 ;")));
    }

    private static boolean in(int v, int least, int most) {
        return least <= v && v <= most;
    }

    private boolean isPane(int p) {
        return in(p, 0, panes.size() - 1);
    }

    // ---- days, panes

    int set(int what, int of, int v) {
        if (what == 0) {
            if (!in(of, 0, 31) || !in(v, 0, 9)) {
                return -100;
            }
            int was = weather[of];
            weather[of] = v;
            return was;
        }
        if (!isPane(of)) {
            return -100;
        }
        Pane p = panes.get(of);
        int was;
        if (what == 1 && in(v, 0, 9)) {
            was = p.number;
            p.number = v;
        } else if (what == 2 && in(v, -9, 9)) {
            was = p.shift;
            p.shift = v;
        } else if (what == 3 && in(v, 0, 5)) {
            was = p.room;
            p.room = v;
        } else if (what == 4 && in(v, 0, 5)) {
            was = p.into;
            p.into = v;
        } else {
            was = -100;
        }
        return was;
    }

    int pane(int kind, int what, int rooms) {
        for (int number = 0; number <= 9; number++) {
            for (int shift = -9; shift <= 9; shift++) {
                if (what == 100 * number + shift + 9 && in(kind, 0, 5)) {
                    for (int room = 0; room <= 5; room++) {
                        for (int into = 0; into <= 5; into++) {
                            if (rooms == 10 * room + into) {
                                return addPane(kind, number, shift, room, into);
                            }
                        }
                    }
                }
            }
        }
        return -2;
    }

    private int addPane(int kind, int number, int shift, int room, int into) {
        if (panes.size() == 8) {
            return -4;
        }
        Pane p = ofKind(kind, null);
        p.number = number;
        p.shift = shift;
        p.room = room;
        p.into = into;
        panes.add(p);
        return panes.size() - 1;
    }

    int told(int of, int what) {
        if (what == 0 && in(of, 0, 31)) {
            return weather[of];
        }
        if (what < 1 || what > 6 || !isPane(of)) {
            return -100;
        }
        Pane p = panes.get(of);
        return List.of(p.number, p.shift, p.room, p.into, KINDS.indexOf(p.getClass()), p.leads()).get(what - 1);
    }

    int gives(int pane, int day, int sort) {
        if (!isPane(pane) || !in(day, 0, 31) || !in(sort, -1, 2)) {
            return -1000;
        }
        Pane p = panes.get(pane);
        return sort == -1 ? p.on(day) : p.passes(day, sort) ? 1 : 0;
    }

    // ---- texts

    int feed(int letter) {
        if (!in(letter, 0, 255)) {
            return -2;
        }
        if (tape.length() == 160) {
            return -4;
        }
        tape.append((char) letter);
        return tape.length();
    }

    int text() {
        if (texts.size() == 6) {
            return -4;
        }
        String text = tape.toString();
        tape.setLength(0);
        int fault = fault(text);
        if (fault >= 0) {
            return -100 - fault;
        }
        texts.add(parts(tokens(text)));
        return texts.size() - 1;
    }

    private static final Set<String> NAMES = Set.of("day", "shift", "number", "weather", "window", "room");
    private static final Set<String> KEYS = Set.of("costs", "wets", "price", "or", "and", "not");

    private static String tokenAt(String text, int i) {
        char c = text.charAt(i);
        int j = i + 1;
        String more = c >= 'a' && c <= 'z' ? "abcdefghijklmnopqrstuvwxyz" : c >= '0' && c <= '9' ? "0123456789" : "";
        while (j < text.length() && more.indexOf(text.charAt(j)) >= 0) {
            j++;
        }
        return text.substring(i, j);
    }

    private static boolean isToken(String t) {
        return NAMES.contains(t) || KEYS.contains(t) || t.matches("[0-9]{1,4}") || t.matches("[-();+*<=]");
    }

    private static List<String> tokens(String text) {
        List<String> all = new ArrayList<>();
        int i = 0;
        while (i < text.length()) {
            if (text.charAt(i) == ' ' || text.charAt(i) == '\n') {
                i++;
            } else {
                all.add(tokenAt(text, i));
                i += all.get(all.size() - 1).length();
            }
        }
        return all;
    }

    /** What has been opened inside a bracket, or outside all. */
    private static final class Frame {
        int nots, minuses;
        boolean compared;
    }

    /** The place of the fault; -1. A machine that tells after each token which ones may follow. */
    private static int fault(String text) {
        String[] keys = {"costs", "wets", "price"};
        int part = 0;
        // 'k' a key is due, 'n' an operand that may have a not ahead, 'o' one that may not, 'a' it stands.
        char state = 'k';
        Deque<Frame> frames = new ArrayDeque<>();
        int i = 0;
        while (true) {
            while (i < text.length() && (text.charAt(i) == ' ' || text.charAt(i) == '\n')) {
                i++;
            }
            if (i == text.length()) {
                return state == 'k' && part == 3 ? -1 : i;
            }
            String t = tokenAt(text, i);
            if (!isToken(t)) {
                return i;
            }
            int open = frames.size() - 1;
            for (Frame f : frames) {
                open += f.nots + f.minuses;
            }
            Frame top = frames.peek();
            if (state == 'k') {
                if (part == 3 || !t.equals(keys[part])) {
                    return i;
                }
                frames.push(new Frame());
                state = 'n';
            } else if (state == 'n' && t.equals("not")) {
                if (open == 5) {
                    return i;
                }
                top.nots++;
            } else if (state == 'n' || state == 'o') {
                if (t.equals("-") && open < 5) {
                    top.minuses++;
                    state = 'o';
                } else if (t.equals("(") && open < 5) {
                    frames.push(new Frame());
                    state = 'n';
                } else if (NAMES.contains(t) || t.matches("[0-9]+")) {
                    top.minuses = 0;
                    state = 'a';
                } else {
                    return i;
                }
            } else if (t.matches("[-+*]")) {
                state = 'o';
            } else if (t.matches("[<=]") && !top.compared) {
                top.compared = true;
                state = 'o';
            } else if (t.equals("and") || t.equals("or")) {
                top.compared = false;
                top.nots = 0;
                state = 'n';
            } else if (t.equals(")") && frames.size() > 1) {
                frames.pop();
                frames.peek().minuses = 0;
            } else if (t.equals(";") && frames.size() == 1) {
                frames.pop();
                part++;
                state = 'k';
            } else {
                return i;
            }
            i += t.length();
        }
    }

    private static List<List<String>> parts(List<String> tokens) {
        List<List<String>> all = new ArrayList<>();
        List<String> part = new ArrayList<>();
        for (String t : tokens) {
            if (t.equals(";")) {
                all.add(part.subList(1, part.size()));
                part = new ArrayList<>();
            } else {
                part.add(t);
            }
        }
        return all;
    }

    private static final Map<String, Integer> BINDS = Map.of("(", 0, "or", 1, "and", 2, "not", 3, "<", 4, "=", 4,
            "+", 5, "-", 5, "*", 6, "neg", 7);

    private static int reckon(List<String> e, Map<String, Integer> names) {
        Deque<Integer> values = new ArrayDeque<>();
        Deque<String> pending = new ArrayDeque<>();
        boolean operandDue = true;
        for (String t : e) {
            if (names.containsKey(t) || Character.isDigit(t.charAt(0))) {
                values.push(names.containsKey(t) ? names.get(t) : Integer.parseInt(t));
                operandDue = false;
            } else if (t.equals("(") || t.equals("not")) {
                pending.push(t);
            } else if (operandDue) {
                pending.push("neg");
            } else {
                int binds = t.equals(")") ? 1 : BINDS.get(t);
                while (!pending.isEmpty() && BINDS.get(pending.peek()) >= binds) {
                    apply(pending.pop(), values);
                }
                if (t.equals(")")) {
                    pending.pop();
                } else {
                    pending.push(t);
                    operandDue = true;
                }
            }
        }
        while (!pending.isEmpty()) {
            apply(pending.pop(), values);
        }
        return values.pop();
    }

    private static void apply(String op, Deque<Integer> values) {
        int b = values.pop();
        if (op.equals("neg") || op.equals("not")) {
            values.push(op.equals("neg") ? -b : b == 0 ? 1 : 0);
            return;
        }
        int a = values.pop();
        int v;
        switch (op) {
            case "or": v = a != 0 || b != 0 ? 1 : 0; break;
            case "and": v = a != 0 && b != 0 ? 1 : 0; break;
            case "<": v = a < b ? 1 : 0; break;
            case "=": v = a == b ? 1 : 0; break;
            case "+": v = a + b; break;
            case "-": v = a - b; break;
            default: v = a * b; break;
        }
        values.push(v);
    }

    private int worth(int part, int window, int day, int[] sky) {
        Pane p = panes.get(window);
        int on = p.on(day);
        int v = reckon(texts.get(rule).get(part), Map.of("day", day, "shift", p.shift, "number", p.number,
                "weather", in(on, 0, 31) ? sky[on] : 0, "window", window, "room", p.room));
        return v > 99 ? 99 : part == 0 && v < 1 ? 1 : v < 0 ? 0 : v;
    }

    int force(int text) {
        if (!in(text, 0, texts.size() - 1)) {
            return -2;
        }
        int was = rule;
        rule = text;
        return was;
    }

    // ---- messages

    /** Steps {to, panes, waits, cost} from a spot, but for panes of these bits. */
    private List<int[]> steps(int spot, int sort, int without, boolean costs) {
        List<int[]> all = new ArrayList<>();
        int day = spot % 32;
        if (day < 31) {
            all.add(new int[] {spot + 1, 0, 1, 1});
        }
        for (int p = 0; p < panes.size(); p++) {
            Pane pane = panes.get(p);
            if ((without & 1 << p) == 0 && pane.room == spot / 32 && pane.passes(day, sort)) {
                int cost = costs ? worth(0, p, day, weather) : 0;
                all.add(new int[] {32 * pane.leads() + pane.on(day), 1, 0, cost});
            }
        }
        return all;
    }

    private Set<Integer> reached(int from, int sort, int without) {
        Set<Integer> all = new TreeSet<>(Set.of(from));
        Deque<Integer> next = new ArrayDeque<>(all);
        while (!next.isEmpty()) {
            for (int[] step : steps(next.pop(), sort, without, false)) {
                if (all.add(step[0])) {
                    next.push(step[0]);
                }
            }
        }
        return all;
    }

    /** The least weight to each spot; null. One step at least, if asked; otherwise none is enough. */
    private Long[] least(int from, int sort, long byPane, long byWait, long byCost, boolean oneStep) {
        Long[] best = new Long[192];
        List<List<int[]>> steps = new ArrayList<>();
        for (int s = 0; s < 192; s++) {
            steps.add(steps(s, sort, 0, byCost != 0));
        }
        if (oneStep) {
            for (int[] step : steps.get(from)) {
                long w = byPane * step[1] + byWait * step[2] + byCost * step[3];
                best[step[0]] = best[step[0]] == null ? w : Math.min(w, best[step[0]]);
            }
        } else {
            best[from] = 0L;
        }
        boolean changed = true;
        while (changed) {
            changed = false;
            for (int s = 0; s < 192; s++) {
                for (int[] step : best[s] == null ? List.<int[]>of() : steps.get(s)) {
                    long w = best[s] + byPane * step[1] + byWait * step[2] + byCost * step[3];
                    if (best[step[0]] == null || w < best[step[0]]) {
                        best[step[0]] = w;
                        changed = true;
                    }
                }
            }
        }
        return best;
    }

    int panes(int from, int to, int sort, int what) {
        if (!in(from, 0, 191) || !in(to, 0, 191) || !in(sort, 0, 2) || !in(what, 0, 1)) {
            return -2;
        }
        Long w = least(from, sort, 1L << 32, 1, 0, false)[to];
        return w == null ? -1 : what == 0 ? (int) (w >> 32) : w.intValue();
    }

    int cost(int from, int to, int sort) {
        if (!in(from, 0, 191) || !in(to, 0, 191) || !in(sort, 0, 2)) {
            return -2;
        }
        Long w = least(from, sort, 0, 0, 1, false)[to];
        return w == null ? -1 : w.intValue();
    }

    int earliest(int from, int room, int sort) {
        if (!in(from, 0, 191) || !in(room, 0, 5) || !in(sort, 0, 2)) {
            return -2;
        }
        return reached(from, sort, 0).stream().filter(s -> s / 32 == room).mapToInt(s -> s % 32).min().orElse(-1);
    }

    int loop(int from, int sort) {
        if (!in(from, 0, 191) || !in(sort, 0, 2)) {
            return -2;
        }
        Long w = least(from, sort, 1, 0, 0, true)[from];
        return w == null ? -1 : w.intValue();
    }

    int spots(int from, int sort) {
        return !in(from, 0, 191) || !in(sort, 0, 2) ? -2 : reached(from, sort, 0).size();
    }

    int brick(int from, int to, int sort, int what) {
        if (!in(from, 0, 191) || !in(to, 0, 191) || !in(sort, 0, 2) || !in(what, 0, 1)) {
            return -2;
        }
        int best = -1;
        int alone = 0;
        for (int set = 0; set < 1 << panes.size(); set++) {
            boolean asked = what == 0 || Integer.bitCount(set) == 1;
            if (asked && !reached(from, sort, set).contains(to)) {
                alone |= set;
                if (best < 0 || Integer.bitCount(set) < Integer.bitCount(best)) {
                    best = set;
                }
            }
        }
        return what == 0 ? best : alone;
    }

    // ---- whose day it is

    private int shows(Pane p, int day) {
        return day <= 31 && p.passes(day, 0) ? weather[p.on(day)] : -1;
    }

    private int lookRefused(int sheet, int pane, int day, int what, int most) {
        if (!in(sheet, 0, 3) || !isPane(pane) || !in(day, 0, 31) || !in(what, 0, most)) {
            return -2;
        }
        return sheets[sheet] == null ? -11 : Array.getLength(sheets[sheet]) > 10 ? -2 : 0;
    }

    private int otherAt(Object row, Pane p, int day) {
        for (int i = 0; i < Array.getLength(row); i++) {
            if (Array.getInt(row, i) != shows(p, day + i)) {
                return i;
            }
        }
        return -1;
    }

    private List<Pane> fitting(Object row, Pane p, int day) {
        List<Pane> all = new ArrayList<>();
        for (int shift = -9; shift <= 9; shift++) {
            Pane other = p.twin();
            other.shift = shift;
            if (otherAt(row, other, day) < 0) {
                all.add(other);
            }
        }
        return all;
    }

    int seen(int sheet, int pane, int day, int what) {
        int refused = lookRefused(sheet, pane, day, what, 2);
        if (refused != 0) {
            return refused;
        }
        Pane p = panes.get(pane);
        Object row = sheets[sheet];
        int bits = 0;
        if (what == 0) {
            return otherAt(row, p, day);
        } else if (what == 1) {
            for (Pane other : fitting(row, p, day)) {
                bits |= 1 << other.shift + 9;
            }
        } else {
            for (int kind = 0; kind < 6; kind++) {
                bits |= otherAt(row, ofKind(kind, p), day) < 0 ? 1 << kind : 0;
            }
        }
        return bits;
    }

    int lookNext(int sheet, int pane, int day, int what) {
        int refused = lookRefused(sheet, pane, day, what, 1);
        if (refused != 0) {
            return refused;
        }
        List<Pane> all = fitting(sheets[sheet], panes.get(pane), day);
        int most = -1;
        int best = -1;
        for (int d = 0; d < 32; d++) {
            Set<Integer> unlike = new HashSet<>();
            for (Pane p : all) {
                unlike.add(shows(p, d));
            }
            if (unlike.size() > most) {
                most = unlike.size();
                best = d;
            }
        }
        return what == 0 ? best : most;
    }

    int film(int sheet, int pane, int day, int n) {
        if (!in(sheet, 0, 3) || !isPane(pane) || !in(day, 0, 31) || !in(n, 0, 10)) {
            return -2;
        }
        byte[] row = new byte[n];
        for (int i = 0; i < n; i++) {
            row[i] = (byte) shows(panes.get(pane), day + i);
        }
        sheets[sheet] = row;
        return n;
    }

    // ---- water, views

    private int waterBy(int room, int day, int[] sky) {
        int all = 0;
        for (int p = 0; p < panes.size(); p++) {
            for (int d = 0; d < 32; d++) {
                Pane pane = panes.get(p);
                if (pane.leads() == room && pane.on(d) == day && pane.passes(d, 2)) {
                    all += worth(1, p, d, sky);
                }
            }
        }
        return all;
    }

    int water(int room, int day) {
        return in(room, 0, 5) && in(day, 0, 31) ? waterBy(room, day, weather) : -2;
    }

    int wettest(int room, int what) {
        if (!in(room, 0, 5) || !in(what, 0, 1)) {
            return -2;
        }
        int best = 0;
        int all = 0;
        for (int d = 0; d < 32; d++) {
            all += water(room, d);
            best = water(room, d) > water(room, best) ? d : best;
        }
        return what == 0 ? best : all;
    }

    private void ways(List<Integer> given, int day, int n, List<List<Integer>> all) {
        if (given.size() == n) {
            all.add(new ArrayList<>(given));
            return;
        }
        for (int p = 0; p < panes.size(); p++) {
            if (!given.contains(p) && panes.get(p).passes(day, 0)) {
                given.add(p);
                ways(given, day, n, all);
                given.remove(given.size() - 1);
            }
        }
    }

    int views(int day, int n, int what) {
        if (!in(day, 0, 31) || !in(n, 0, 4) || !in(what, 0, 1)) {
            return -2;
        }
        int[] prices = new int[panes.size()];
        for (int p = 0; p < prices.length; p++) {
            prices[p] = worth(2, p, day, weather);
        }
        List<List<Integer>> all = new ArrayList<>();
        ways(new ArrayList<>(), day, n, all);
        int best = -1;
        int digits = -1;
        for (List<Integer> way : all) {
            int price = way.stream().mapToInt(p -> prices[p]).sum();
            if (price > best) {
                best = price;
                digits = way.stream().reduce(0, (a, p) -> 10 * a + p + 1);
            }
        }
        return what == 0 ? best : digits;
    }

    private int drawnBy(int room, int seed) {
        int[] sky = new int[32];
        int z = seed;
        for (int d = 0; d < 32; d++) {
            z = z * 1103515245 + 12345;
            sky[d] = (z >>> 9) % 10;
        }
        int all = 0;
        for (int d = 0; d < 32; d++) {
            all += waterBy(room, d, sky);
        }
        return all;
    }

    int drawn(int room, int seed) {
        return in(room, 0, 5) ? drawnBy(room, seed) : -2;
    }

    long chance(int room, int seed, int n, int most, int part) {
        if (!in(room, 0, 5) || !in(n, 1, 20) || !in(most, 0, 99999) || !in(part, 0, 1)) {
            return -(1L << 62);
        }
        int dry = 0;
        for (int i = 0; i < n; i++) {
            dry += drawnBy(room, seed + i) <= most ? 1 : 0;
        }
        int g = java.math.BigInteger.valueOf(n).gcd(java.math.BigInteger.valueOf(dry)).intValue();
        return part == 0 ? dry / g : n / g;
    }

    private static List<Pane> twins(List<Pane> all) {
        List<Pane> made = new ArrayList<>();
        for (Pane p : all) {
            made.add(p.twin());
        }
        return made;
    }

    int image() {
        keptWeather = weather.clone();
        keptPanes = twins(panes);
        keptRule = rule;
        return panes.size();
    }

    int back() {
        if (keptPanes == null) {
            return -3;
        }
        weather = keptWeather.clone();
        panes = twins(keptPanes);
        rule = keptRule;
        return panes.size();
    }

    int count(int what) {
        int[] all = {panes.size(), texts.size(), tape.length(), rule, Arrays.stream(weather).sum()};
        return in(what, 0, 4) ? all[what] : -2;
    }

    // ---- the host

    int sheet(int sheet, int sort, int n) {
        if (!in(sheet, 0, 3) || !in(sort, -1, 2)) {
            return -2;
        }
        if (sort >= 0 && n > 40) {
            return -2;
        }
        try {
            sheets[sheet] = sort == -1 ? null : sort == 0 ? new byte[n] : sort == 1 ? new short[n] : (Object) new int[n];
            return 1;
        } catch (NegativeArraySizeException e) {
            return -14;
        }
    }

    int cell(int sheet, int i, int v) {
        if (!in(sheet, 0, 3)) {
            return -2;
        }
        Object row = sheets[sheet];
        try {
            if (row == null) {
                return -11;
            } else if (row instanceof byte[]) {
                ((byte[]) row)[i] = (byte) v;
            } else if (row instanceof short[]) {
                ((short[]) row)[i] = (short) v;
            } else {
                ((int[]) row)[i] = v;
            }
            return 1;
        } catch (ArrayIndexOutOfBoundsException e) {
            return -12;
        }
    }

    int copy(int sheet, int i, int other, int j, int n) {
        if (!in(sheet, 0, 3) || !in(other, 0, 3)) {
            return -2;
        }
        try {
            System.arraycopy(sheets[sheet], i, sheets[other], j, n);
            return n;
        } catch (NullPointerException e) {
            return -11;
        } catch (ArrayStoreException e) {
            return -13;
        } catch (IndexOutOfBoundsException e) {
            return -12;
        }
    }

    int weathers(int sheet, int sort, int from, int n) {
        if (!in(sheet, 0, 3) || !in(sort, 0, 2) || !in(n, 0, 20)) {
            return -2;
        }
        Object row = sheets[sheet];
        try {
            Object taken = sort == 0 ? (byte[]) row : sort == 1 ? (short[]) row : (Object) (int[]) row;
            Array.getLength(taken);
            int became = 0;
            for (int k = 0; k < n; k++) {
                int day = Array.getInt(taken, from + 2 * k);
                int w = Array.getInt(taken, from + 2 * k + 1);
                became += set(0, day, w) == -100 ? 0 : 1;
            }
            return became;
        } catch (ClassCastException e) {
            return -13;
        } catch (NullPointerException e) {
            return -11;
        } catch (ArrayIndexOutOfBoundsException e) {
            return -12;
        }
    }

    int taken(int pane, int k) {
        if (!in(k, 0, 5)) {
            return -2;
        }
        if (!isPane(pane)) {
            return -11;
        }
        return KINDS.get(k).isInstance(panes.get(pane)) ? panes.get(pane).number : -13;
    }
}
