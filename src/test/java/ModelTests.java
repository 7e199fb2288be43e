import java.util.Random;

/** Runs of drawn calls, each answered by the class and by the model. The seeds are fixed: it is the same each time. */
public final class ModelTests {
    private static final int RUNS = 160, CALLS = 512;
    private static final Checks check = new Checks();
    private static Random random;
    private static WindowsGive x;
    private static Model m;
    private static int left;

    public static void main(String[] args) {
        for (int run = 0; run < RUNS; run++) {
            random = new Random(run);
            x = new WindowsGive();
            m = new Model();
            left = CALLS;
            check.group("run " + run);
            while (left > 0) {
                next(run % 4);
            }
        }
        texts();
        check.end();
    }

    /** Texts by themselves, as a run of 512 calls has room for few. */
    private static void texts() {
        random = new Random(4242);
        for (int n = 0; n < 4000; n++) {
            check.group("text " + n);
            x = new WindowsGive();
            m = new Model();
            left = CALLS;
            feedText();
            due("text", x.text(), m.text());
        }
    }

    private static int upTo(int most) {
        return random.nextInt(most + 1);
    }

    /** Mostly one of these, at times one beside them, rarely a wild one. */
    private static int near(int least, int most) {
        int dice = random.nextInt(40);
        if (dice == 0) {
            int[] wild = {Integer.MAX_VALUE, Integer.MIN_VALUE, Integer.MAX_VALUE - 1, -1000, 1000, 1 << 16, 256, -128};
            return wild[random.nextInt(wild.length)];
        }
        if (dice == 1) {
            return random.nextBoolean() ? least - 1 : most + 1;
        }
        return least + random.nextInt(most - least + 1);
    }

    private static void due(String call, long got, long want, int... args) {
        left--;
        StringBuilder told = new StringBuilder(call).append("(");
        for (int i = 0; i < args.length; i++) {
            told.append(i == 0 ? "" : ", ").append(args[i]);
        }
        check.due(told.append(")").toString(), got, want);
    }

    private static int pickSpot() {
        return near(0, 191);
    }

    /** In some runs there are many panes between few rooms, so that much is reached. */
    private static int pickRooms(int style) {
        int rooms = style == 0 ? 1 : style == 1 ? 2 : 5;
        return random.nextInt(30) == 0 ? near(0, 55) : 10 * upTo(rooms) + upTo(rooms);
    }

    private static void next(int style) {
        int dice = random.nextInt(100);
        if (dice < 22) {
            change(style);
        } else if (dice < 27) {
            text();
        } else if (dice < 55) {
            message(style);
        } else if (dice < 68) {
            look();
        } else if (dice < 82) {
            water();
        } else {
            host();
        }
    }

    private static void change(int style) {
        int a, b, c;
        switch (random.nextInt(6)) {
            case 0:
                a = near(0, 5);
                b = 100 * near(0, style == 3 ? 1 : 9) + near(0, 18);
                c = pickRooms(style);
                due("pane", x.pane(a, b, c), m.pane(a, b, c), a, b, c);
                break;
            case 1:
                a = near(0, 4);
                b = a == 0 ? near(0, 31) : near(0, 7);
                c = a == 2 ? near(-9, 9) : a > 2 ? near(0, 5) : near(0, 9);
                due("set", x.set(a, b, c), m.set(a, b, c), a, b, c);
                break;
            case 2:
                a = near(0, 31);
                c = near(0, 9);
                due("set", x.set(0, a, c), m.set(0, a, c), 0, a, c);
                break;
            case 3:
                a = near(0, 7);
                b = near(0, 6);
                due("told", x.told(a, b), m.told(a, b), a, b);
                break;
            case 4:
                a = near(0, 7);
                b = near(0, 31);
                c = near(-1, 2);
                due("gives", x.gives(a, b, c), m.gives(a, b, c), a, b, c);
                break;
            default:
                a = near(0, 4);
                due("count", x.count(a), m.count(a), a);
                if (random.nextInt(3) == 0) {
                    due("image", x.image(), m.image());
                } else if (random.nextInt(3) == 0) {
                    due("back", x.back(), m.back());
                }
                break;
        }
    }

    private static void text() {
        if (random.nextInt(12) == 0 && left > 200) {
            feedText();
            due("text", x.text(), m.text());
        } else if (random.nextInt(9) == 0) {
            int letter = near(0, 255);
            due("feed", x.feed(letter), m.feed(letter), letter);
        } else {
            int a = near(0, 5);
            due("force", x.force(a), m.force(a), a);
        }
    }

    private static void feedText() {
        String text = "costs " + e(0, 0) + ";wets " + e(0, 0) + " ; price " + e(0, 0) + ";";
        StringBuilder spoilt = new StringBuilder(text);
        if (random.nextInt(3) == 0) {
            String with = "();+-*<= \nadnotor0123459?";
            int at = random.nextInt(spoilt.length());
            switch (random.nextInt(3)) {
                case 0:
                    spoilt.deleteCharAt(at);
                    break;
                case 1:
                    spoilt.insert(at, with.charAt(random.nextInt(with.length())));
                    break;
                default:
                    spoilt.setLength(at);
                    break;
            }
        }
        for (int i = 0; i < spoilt.length(); i++) {
            due("feed", x.feed(spoilt.charAt(i)), m.feed(spoilt.charAt(i)), spoilt.charAt(i));
        }
    }

    /** A drawn E; level tells which words of the grammar may stand: 0 E, 1 AND, 2 NOT, 3 SUM, 4 TERM, 5 ONE. */
    private static String e(int level, int depth) {
        String[] signs = {" or ", " and ", random.nextBoolean() ? "<" : "=", random.nextBoolean() ? "+" : "-", "*"};
        if (level == 5) {
            return one(depth);
        }
        if (level == 2 && depth < 7 && random.nextInt(6) == 0) {
            return "not " + e(2, depth + 1);
        }
        String made = e(level + 1, depth + 1);
        if (random.nextInt(6) == 0) {
            made += signs[level] + e(level + 1, depth + 2);
        }
        return made;
    }

    private static String one(int depth) {
        String[] names = {"day", "shift", "number", "weather", "window", "room"};
        switch (random.nextInt(depth > 24 ? 2 : 5)) {
            case 0:
                return "" + random.nextInt(random.nextInt(4) == 0 ? 12000 : 12);
            case 1:
            case 2:
                return names[random.nextInt(6)];
            case 3:
                return "-" + one(depth + 3);
            default:
                return "(" + e(0, depth + 2) + ")";
        }
    }

    private static void message(int style) {
        int a = pickSpot();
        int b = random.nextInt(3) == 0 ? a : pickSpot();
        if (style < 2 && random.nextInt(6) != 0) {
            a = 32 * upTo(style + 1) + upTo(31);
            b = 32 * upTo(style + 1) + upTo(31);
        }
        int sort = near(0, 2);
        int what = near(0, 1);
        int room = near(0, 5);
        switch (random.nextInt(6)) {
            case 0:
                due("panes", x.panes(a, b, sort, what), m.panes(a, b, sort, what), a, b, sort, what);
                break;
            case 1:
                due("cost", x.cost(a, b, sort), m.cost(a, b, sort), a, b, sort);
                break;
            case 2:
                due("earliest", x.earliest(a, room, sort), m.earliest(a, room, sort), a, room, sort);
                break;
            case 3:
                due("loop", x.loop(a, sort), m.loop(a, sort), a, sort);
                break;
            case 4:
                due("spots", x.spots(a, sort), m.spots(a, sort), a, sort);
                break;
            default:
                due("brick", x.brick(a, b, sort, what), m.brick(a, b, sort, what), a, b, sort, what);
                break;
        }
    }

    private static void look() {
        int sheet = near(0, 3);
        int pane = near(0, 7);
        int day = near(0, 31);
        int n = near(0, 10);
        if (random.nextBoolean()) {
            due("film", x.film(sheet, pane, day, n), m.film(sheet, pane, day, n), sheet, pane, day, n);
        }
        for (int what = 0; what < 3; what++) {
            due("seen", x.seen(sheet, pane, day, what), m.seen(sheet, pane, day, what), sheet, pane, day, what);
        }
        int other = near(0, 7);
        int what = near(0, 1);
        due("seen", x.seen(sheet, other, day, 1), m.seen(sheet, other, day, 1), sheet, other, day, 1);
        due("lookNext", x.lookNext(sheet, pane, day, what), m.lookNext(sheet, pane, day, what), sheet, pane, day, what);
    }

    private static void water() {
        int room = near(0, 5);
        int day = near(0, 31);
        int what = near(0, 1);
        int n = near(0, 4);
        int seed = random.nextInt();
        switch (random.nextInt(5)) {
            case 0:
                due("water", x.water(room, day), m.water(room, day), room, day);
                break;
            case 1:
                due("wettest", x.wettest(room, what), m.wettest(room, what), room, what);
                break;
            case 2:
                due("views", x.views(day, n, what), m.views(day, n, what), day, n, what);
                break;
            case 3:
                due("drawn", x.drawn(room, seed), m.drawn(room, seed), room, seed);
                break;
            default:
                // Near what one seed brings, so that some seeds lie on either side.
                int most = room >= 0 && room < 6 ? m.drawn(room, seed) + random.nextInt(5) - 2 : near(0, 99999);
                int seeds = near(1, 20);
                due("chance", x.chance(room, seed, seeds, most, what), m.chance(room, seed, seeds, most, what),
                        room, seed, seeds, most, what);
                break;
        }
    }

    private static void host() {
        int sheet = near(0, 3);
        int other = near(0, 3);
        int sort = near(-1, 2);
        int i = near(0, 12);
        int j = near(0, 12);
        int n = near(0, 12);
        int v = random.nextInt(3) == 0 ? random.nextInt() : near(-1, 31);
        switch (random.nextInt(8)) {
            case 0:
                due("sheet", x.sheet(sheet, sort, n), m.sheet(sheet, sort, n), sheet, sort, n);
                break;
            case 1:
                n = near(0, 40);
                due("sheet", x.sheet(sheet, sort, n), m.sheet(sheet, sort, n), sheet, sort, n);
                break;
            case 2:
            case 3:
            case 4:
                due("cell", x.cell(sheet, i, v), m.cell(sheet, i, v), sheet, i, v);
                break;
            case 5:
                due("copy", x.copy(sheet, i, other, j, n), m.copy(sheet, i, other, j, n), sheet, i, other, j, n);
                break;
            case 6:
                n = near(0, 20);
                due("weathers", x.weathers(sheet, sort, i, n), m.weathers(sheet, sort, i, n), sheet, sort, i, n);
                break;
            default:
                due("taken", x.taken(i, j), m.taken(i, j), i, j);
                break;
        }
    }
}
