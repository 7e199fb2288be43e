import java.util.List;
import java.util.function.Supplier;

/**
 * Every refusal that the document names, promise by promise: the last number that is taken and the first that is not,
 * which refusal is the first, and that it changes nothing.
 */
public final class RefusalTests extends Make {
    private static final Checks check = new Checks();
    private static final int BAD = -2, STATE = -3, FULL = -4, NO_SUCH = -100, NO_GIFT = -1000;
    private static final int NOTHING = -11, OUTSIDE = -12, OTHER = -13, BELOW = -14;
    private static final int BYTES = 0, SHORTS = 1, INTS = 2, GONE = 3;
    private static final int[] WILD = {MIN, MIN + 1, -1000000, -256, 256, 65536, 1 << 30, MAX - 1, MAX};

    private static Supplier<WindowsGive> made;
    private static List<Long> untouched;

    public static void main(String[] args) {
        promises2to5();
        promises6to8();
        promises9to14();
        promises15to17();
        promises18to22();
        promises23to25();
        promise26();
        promise27();
        promise28();
        promise29();
        promise30();
        withoutPanes();
        panesThatWent();
        check.end();
    }

    // ---- houses in which calls are refused

    /** Three panes, two texts, an image of less, half a text on the tape, sheets of each sort and a missing one. */
    private static WindowsGive house() {
        WindowsGive x = new WindowsGive();
        x.set(0, 3, 4);
        x.pane(CRACKED, of(2, 1), 1);
        x.pane(MIRROR, of(3, -9), 34);
        rule(x, "2", "3", "4");
        x.image();
        x.pane(FEAST, of(4, 9), 50);
        x.set(0, 3, 5);
        x.set(0, 31, 9);
        x.force(0);
        fill(x, BYTES, 0, 3, 7, 8, 2);
        fill(x, SHORTS, 1, 0, 1, 1, 2, 2, 3, 4, 5, 6, 7, 9, 1);
        fill(x, INTS, 2, 9, 1);
        feedAll(x, "costs 5;wets 6;");
        return x;
    }

    private static WindowsGive eightPanes() {
        WindowsGive x = new WindowsGive();
        for (int p = 0; p < 8; p++) {
            x.pane(p % 6, of(p, p), 10 * (p % 6) + p % 5);
        }
        return x;
    }

    private static WindowsGive fullTape() {
        WindowsGive x = new WindowsGive();
        feedAll(x, " ".repeat(160));
        return x;
    }

    private static WindowsGive sixTexts(String tape) {
        WindowsGive x = new WindowsGive();
        for (int n = 1; n < 6; n++) {
            textOf(x, price("" + n));
        }
        feedAll(x, tape);
        return x;
    }

    private static WindowsGive sizes(int sort, int size) {
        WindowsGive x = house();
        x.sheet(GONE, sort, size);
        return x;
    }

    private static void in(Supplier<WindowsGive> house) {
        made = house;
        untouched = Probe.of(house.get());
    }

    // ---- how a refusal is looked at

    private static void refused(long due, String name, int... args) {
        WindowsGive x = made.get();
        String call = Probe.told(name, args);
        check.due(call, Probe.call(x, name, args), due);
        check.holds("\"refusals change nothing\" of " + call, Probe.of(x).equals(untouched));
    }

    private static void taken(long refusal, String name, int... args) {
        check.holds(Probe.told(name, args) + " is taken", Probe.call(made.get(), name, args) != refusal);
    }

    private static int[] with(int[] args, int i, int v) {
        int[] changed = args.clone();
        changed[i] = v;
        return changed;
    }

    private static void below(long refusal, String name, int i, int least, int... args) {
        taken(refusal, name, with(args, i, least));
        refused(refusal, name, with(args, i, least - 1));
        for (int wild : WILD) {
            if (wild < least) {
                refused(refusal, name, with(args, i, wild));
            }
        }
    }

    private static void above(long refusal, String name, int i, int most, int... args) {
        taken(refusal, name, with(args, i, most));
        refused(refusal, name, with(args, i, most + 1));
        for (int wild : WILD) {
            if (wild > most) {
                refused(refusal, name, with(args, i, wild));
            }
        }
    }

    /** Argument i may be least .. most; the others are those of args. */
    private static void range(long refusal, String name, int i, int least, int most, int... args) {
        below(refusal, name, i, least, args);
        above(refusal, name, i, most, args);
    }

    // ---- promise by promise

    private static void promises2to5() {
        in(RefusalTests::house);
        check.group("promise 2, set: -100: none such");
        range(NO_SUCH, "set", 0, 0, 4, 0, 0, 0);
        range(NO_SUCH, "set", 1, 0, 31, 0, 0, 0);
        range(NO_SUCH, "set", 2, 0, 9, 0, 3, 0);
        for (int what = 1; what < 5; what++) {
            range(NO_SUCH, "set", 1, 0, 2, what, 0, 0);
            range(NO_SUCH, "set", 2, what == 2 ? -9 : 0, what == 2 ? 9 : what == 1 ? 9 : 5, what, 2, 0);
        }
        check.group("promise 3, pane: BAD");
        range(BAD, "pane", 0, 0, 5, 0, 9, 0);
        range(BAD, "pane", 1, 0, 918, 0, 0, 0);
        range(BAD, "pane", 2, 0, 55, 0, 9, 0);
        for (int what = -120; what < 1130; what++) {
            boolean is = what >= 0 && what < 1000 && what % 100 <= 18;
            check.holds("pane(0, " + what + ", 0)", new WindowsGive().pane(0, what, 0) == (is ? 0 : BAD));
        }
        for (int rooms = -70; rooms < 130; rooms++) {
            boolean is = rooms >= 0 && rooms < 60 && rooms % 10 <= 5;
            check.holds("pane(0, 9, " + rooms + ")", new WindowsGive().pane(0, 9, rooms) == (is ? 0 : BAD));
        }
        check.group("Quotients are cut toward 0: what lies below 0 is no NUMBER 0, no ROOM 0");
        for (int low : new int[] {-1, -9, -10, -18, -82, -91, -99, -100}) {
            refused(BAD, "pane", 0, low, 0);
            refused(BAD, "pane", 0, 9, low);
        }
        in(RefusalTests::eightPanes);
        check.group("promise 3, pane: FULL");
        refused(FULL, "pane", 0, 9, 0);
        refused(FULL, "pane", 5, 918, 55);
        check.group("promise 3, pane: BAD ahead of FULL");
        refused(BAD, "pane", 6, 9, 0);
        refused(BAD, "pane", 0, 19, 0);
        refused(BAD, "pane", 0, 9, 6);
        in(RefusalTests::house);
        check.group("promise 4, told: -100: none such");
        range(NO_SUCH, "told", 0, 0, 31, 0, 0);
        range(NO_SUCH, "told", 1, 0, 6, 0, 0);
        for (int what = 1; what < 7; what++) {
            range(NO_SUCH, "told", 0, 0, 2, 0, what);
        }
        check.group("promise 5, gives: -1000: none such");
        range(NO_GIFT, "gives", 0, 0, 2, 0, 0, 0);
        range(NO_GIFT, "gives", 1, 0, 31, 0, 0, 0);
        range(NO_GIFT, "gives", 2, -1, 2, 0, 0, 0);
    }

    private static void promises6to8() {
        in(RefusalTests::house);
        check.group("promise 6, feed: BAD");
        range(BAD, "feed", 0, 0, 255, 0);
        in(RefusalTests::fullTape);
        check.group("promise 6, feed: FULL");
        refused(FULL, "feed", 0);
        refused(FULL, "feed", 255);
        check.group("promise 6, feed: BAD ahead of FULL");
        refused(BAD, "feed", -1);
        refused(BAD, "feed", 256);
        check.group("promise 7, text: FULL (ahead of all); THE TAPE stays");
        for (String tape : List.of("", "?", price("6"), "costs 5;wets 6;")) {
            in(() -> sixTexts(tape));
            refused(FULL, "text");
        }
        in(RefusalTests::house);
        check.group("promise 8, force: BAD");
        range(BAD, "force", 0, 0, 1, 0);
        in(() -> sixTexts(""));
        range(BAD, "force", 0, 0, 5, 0);
        in(WindowsGive::new);
        range(BAD, "force", 0, 0, 0, 0);
    }

    private static void promises9to14() {
        in(RefusalTests::house);
        check.group("promise 9, panes: BAD");
        range(BAD, "panes", 0, 0, 191, 0, 0, 0, 0);
        range(BAD, "panes", 1, 0, 191, 0, 0, 0, 0);
        range(BAD, "panes", 2, 0, 2, 0, 0, 0, 0);
        range(BAD, "panes", 3, 0, 1, 0, 0, 0, 0);
        check.group("promise 10, cost: BAD");
        range(BAD, "cost", 0, 0, 191, 0, 0, 0);
        range(BAD, "cost", 1, 0, 191, 0, 0, 0);
        range(BAD, "cost", 2, 0, 2, 0, 0, 0);
        check.group("promise 11, earliest: BAD");
        range(BAD, "earliest", 0, 0, 191, 0, 0, 0);
        range(BAD, "earliest", 1, 0, 5, 0, 0, 0);
        range(BAD, "earliest", 2, 0, 2, 0, 0, 0);
        check.group("promise 12, loop: BAD");
        range(BAD, "loop", 0, 0, 191, 0, 0);
        range(BAD, "loop", 1, 0, 2, 0, 0);
        check.group("promise 13, spots: BAD");
        range(BAD, "spots", 0, 0, 191, 0, 0);
        range(BAD, "spots", 1, 0, 2, 0, 0);
        check.group("promise 14, brick: BAD");
        range(BAD, "brick", 0, 0, 191, 0, 0, 0, 0);
        range(BAD, "brick", 1, 0, 191, 0, 0, 0, 0);
        range(BAD, "brick", 2, 0, 2, 0, 0, 0, 0);
        range(BAD, "brick", 3, 0, 1, 0, 0, 0, 0);
    }

    private static void promises15to17() {
        in(RefusalTests::house);
        for (String name : List.of("seen", "lookNext")) {
            check.group("promises 15, 16, " + name + ": BAD: SHEET, PANE, DAY, what");
            range(BAD, name, 0, 0, 3, 0, 0, 0, 0);
            range(BAD, name, 1, 0, 2, 0, 0, 0, 0);
            range(BAD, name, 2, 0, 31, 0, 0, 0, 0);
            range(BAD, name, 3, 0, name.equals("seen") ? 2 : 1, 0, 0, 0, 0);
            check.group("promises 15, 16, " + name + ": -11");
            refused(NOTHING, name, GONE, 0, 0, 0);
            refused(NOTHING, name, GONE, 2, 31, 1);
            check.group("promises 15, 16, " + name + ": BAD ahead of -11");
            refused(BAD, name, GONE, 3, 0, 0);
            refused(BAD, name, GONE, 0, 32, 0);
            refused(BAD, name, GONE, 0, 0, 3);
            check.group("promises 15, 16, " + name + ": BAD: it tells above 10");
            refused(BAD, name, SHORTS, 0, 0, 0);
            refused(BAD, name, SHORTS, 0, 0, 1);
            for (int sort = 0; sort < 3; sort++) {
                int of = sort;
                in(() -> sizes(of, 10));
                taken(BAD, name, GONE, 0, 0, 0);
                in(() -> sizes(of, 11));
                refused(BAD, name, GONE, 0, 0, 0);
            }
            in(RefusalTests::house);
        }
        check.group("promise 17, film: BAD");
        range(BAD, "film", 0, 0, 3, 0, 0, 0, 0);
        range(BAD, "film", 1, 0, 2, 0, 0, 0, 0);
        range(BAD, "film", 2, 0, 31, 0, 0, 0, 0);
        range(BAD, "film", 3, 0, 10, 0, 0, 0, 0);
    }

    private static void promises18to22() {
        in(RefusalTests::house);
        check.group("promise 18, water: BAD");
        range(BAD, "water", 0, 0, 5, 0, 0);
        range(BAD, "water", 1, 0, 31, 0, 0);
        check.group("promise 19, wettest: BAD");
        range(BAD, "wettest", 0, 0, 5, 0, 0);
        range(BAD, "wettest", 1, 0, 1, 0, 0);
        check.group("promise 20, views: BAD");
        range(BAD, "views", 0, 0, 31, 0, 0, 0);
        range(BAD, "views", 1, 0, 4, 0, 0, 0);
        range(BAD, "views", 2, 0, 1, 0, 0, 0);
        check.group("promise 21, drawn: BAD");
        range(BAD, "drawn", 0, 0, 5, 0, 0);
        for (int wild : WILD) {
            taken(BAD, "drawn", 1, wild);
        }
        check.group("promise 22, chance: NO: none such");
        range(WindowsGive.NO, "chance", 0, 0, 5, 0, 0, 1, 0, 0);
        range(WindowsGive.NO, "chance", 2, 1, 20, 0, 0, 1, 0, 0);
        range(WindowsGive.NO, "chance", 3, 0, 99999, 0, 0, 1, 0, 0);
        range(WindowsGive.NO, "chance", 4, 0, 1, 0, 0, 1, 0, 0);
        for (int wild : WILD) {
            taken(WindowsGive.NO, "chance", 1, wild, 20, 0, 0);
        }
    }

    private static void promises23to25() {
        check.group("promise 24, back: STATE: there is none");
        in(WindowsGive::new);
        refused(STATE, "back");
        in(RefusalTests::eightPanes);
        refused(STATE, "back");
        check.group("promise 25, count: BAD");
        in(RefusalTests::house);
        range(BAD, "count", 0, 0, 4, 0);
    }

    private static void promise26() {
        in(RefusalTests::house);
        check.group("promise 26, sheet: BAD: no such SHEET, sort");
        range(BAD, "sheet", 0, 0, 3, 0, 0, 0);
        range(BAD, "sheet", 1, -1, 2, 0, 0, 0);
        check.group("promise 26, sheet: BAD: n above 40");
        for (int sort = 0; sort < 3; sort++) {
            above(BAD, "sheet", 2, 40, 0, sort, 0);
        }
        check.group("promise 26, sheet: -14");
        for (int sort = 0; sort < 3; sort++) {
            below(BELOW, "sheet", 2, 0, 0, sort, 0);
        }
        check.group("promise 26, sheet: BAD ahead of -14");
        refused(BAD, "sheet", -1, 0, -1);
        refused(BAD, "sheet", 4, 0, -1);
        refused(BAD, "sheet", 0, 3, -1);
        refused(BAD, "sheet", 0, -2, -1);
        check.group("promise 26, sheet: sort -1: n does not matter");
        for (int n : new int[] {MIN, -1, 0, 40, 41, MAX}) {
            WindowsGive x = house();
            check.due("sheet(0, -1, " + n + ")", x.sheet(0, -1, n), 1);
            check.due("and it is missing", x.cell(0, 0, 0), NOTHING);
        }
        refused(BAD, "sheet", 4, -1, 0);
    }

    private static void promise27() {
        in(RefusalTests::house);
        check.group("promise 27, cell: BAD: no such SHEET");
        range(BAD, "cell", 0, 0, 3, 0, 0, 0);
        check.group("promise 27, cell: -11");
        refused(NOTHING, "cell", GONE, 0, 0);
        check.group("promise 27, cell: -12");
        range(OUTSIDE, "cell", 1, 0, 3, BYTES, 0, 3);
        range(OUTSIDE, "cell", 1, 0, 11, SHORTS, 0, 3);
        range(OUTSIDE, "cell", 1, 0, 1, INTS, 0, 3);
        in(() -> sizes(0, 0));
        refused(OUTSIDE, "cell", GONE, 0, 0);
        in(RefusalTests::house);
        check.group("promise 27, cell: BAD ahead of -11 ahead of -12");
        refused(BAD, "cell", 4, -1, 0);
        refused(NOTHING, "cell", GONE, -1, 0);
        refused(NOTHING, "cell", GONE, MAX, 0);
    }

    private static void promise28() {
        in(RefusalTests::house);
        check.group("promise 28, copy: BAD: no such SHEET");
        range(BAD, "copy", 0, 0, 3, 0, 0, 0, 0, 0);
        range(BAD, "copy", 2, 0, 3, 0, 0, 0, 0, 0);
        check.group("promise 28, copy: -11");
        refused(NOTHING, "copy", GONE, 0, BYTES, 0, 0);
        refused(NOTHING, "copy", BYTES, 0, GONE, 0, 0);
        refused(NOTHING, "copy", GONE, 0, GONE, 0, 0);
        check.group("promise 28, copy: -13: they are of unlike sorts");
        for (int sort = 0; sort < 3; sort++) {
            refused(OTHER, "copy", sort, 0, (sort + 1) % 3, 0, 1);
            refused(OTHER, "copy", sort, 0, (sort + 2) % 3, 0, 0);
        }
        check.group("promise 28, copy: -12");
        range(OUTSIDE, "copy", 1, 0, 2, BYTES, 0, BYTES, 0, 2);
        range(OUTSIDE, "copy", 3, 0, 2, BYTES, 0, BYTES, 0, 2);
        range(OUTSIDE, "copy", 1, 0, 4, BYTES, 0, BYTES, 0, 0);
        range(OUTSIDE, "copy", 3, 0, 4, BYTES, 0, BYTES, 0, 0);
        in(() -> sizes(0, 6));
        above(OUTSIDE, "copy", 4, 4, BYTES, 0, GONE, 0, 0);
        above(OUTSIDE, "copy", 4, 4, GONE, 0, BYTES, 0, 0);
        refused(OUTSIDE, "copy", GONE, MAX, GONE, MAX, MAX);
        in(RefusalTests::house);
        check.group("promise 28, copy: -12 (also with n below 0)");
        below(OUTSIDE, "copy", 4, 0, BYTES, 0, BYTES, 0, 0);
        below(OUTSIDE, "copy", 4, 0, BYTES, 3, BYTES, 3, 0);
        check.group("promise 28, copy: BAD ahead of -11 ahead of -13 ahead of -12");
        refused(BAD, "copy", GONE, -1, 4, 0, -1);
        refused(BAD, "copy", 4, -1, GONE, 0, -1);
        refused(NOTHING, "copy", GONE, -1, BYTES, 0, -1);
        refused(NOTHING, "copy", BYTES, -1, GONE, 0, -1);
        refused(OTHER, "copy", BYTES, -1, INTS, 0, -1);
        refused(OTHER, "copy", BYTES, 0, INTS, 99, 99);
    }

    private static void promise29() {
        in(RefusalTests::house);
        check.group("promise 29, weathers: BAD: no such SHEET, sort, n");
        range(BAD, "weathers", 0, 0, 3, 0, 0, 0, 0);
        range(BAD, "weathers", 1, 0, 2, 0, 0, 0, 0);
        range(BAD, "weathers", 3, 0, 20, 0, 0, 0, 0);
        refused(BAD, "weathers", 0, -1, 0, 0);
        check.group("promise 29, weathers: -13");
        for (int sort = 0; sort < 3; sort++) {
            refused(OTHER, "weathers", sort, (sort + 1) % 3, 0, 1);
            refused(OTHER, "weathers", sort, (sort + 2) % 3, 0, 0);
        }
        check.group("promise 29, weathers: -11");
        for (int sort = 0; sort < 3; sort++) {
            refused(NOTHING, "weathers", GONE, sort, 0, 1);
            refused(NOTHING, "weathers", GONE, sort, 0, 0);
        }
        check.group("promise 29, weathers: -12");
        range(OUTSIDE, "weathers", 2, 0, 2, BYTES, 0, 0, 1);
        refused(OUTSIDE, "weathers", INTS, 2, 2, 20);
        refused(OUTSIDE, "weathers", INTS, 2, 1, 1);
        in(() -> sizes(1, 0));
        refused(OUTSIDE, "weathers", GONE, 1, 0, 1);
        in(RefusalTests::house);
        check.group("promise 29, weathers: BAD ahead of -13 ahead of -12, BAD ahead of -11 ahead of -12");
        refused(BAD, "weathers", BYTES, 3, -1, 1);
        refused(BAD, "weathers", BYTES, 1, -1, 21);
        refused(BAD, "weathers", GONE, 0, -1, 21);
        refused(BAD, "weathers", 4, 0, -1, 1);
        refused(OTHER, "weathers", BYTES, 1, -1, 1);
        refused(OTHER, "weathers", BYTES, 2, MAX, 20);
        refused(NOTHING, "weathers", GONE, 0, -1, 1);
        refused(NOTHING, "weathers", GONE, 2, MAX, 20);
    }

    private static void promise30() {
        in(RefusalTests::house);
        check.group("promise 30, taken: BAD: k");
        range(BAD, "taken", 1, 0, 5, 0, 0);
        check.group("promise 30, taken: -11: no such PANE");
        range(NOTHING, "taken", 0, 0, 2, 0, 0);
        check.group("promise 30, taken: -13");
        refused(OTHER, "taken", 0, FEAST);
        refused(OTHER, "taken", 1, LAGGING);
        refused(OTHER, "taken", 2, MIRROR);
        check.group("promise 30, taken: BAD ahead of -11");
        refused(BAD, "taken", 3, 6);
        refused(BAD, "taken", -1, -1);
    }

    // ---- panes that are not there

    private static void noPane(int pane) {
        for (int what = 1; what < 5; what++) {
            refused(NO_SUCH, "set", what, pane, 0);
            refused(NO_SUCH, "told", pane, what);
        }
        refused(NO_SUCH, "told", pane, 5);
        refused(NO_SUCH, "told", pane, 6);
        refused(NO_GIFT, "gives", pane, 0, -1);
        refused(BAD, "seen", 0, pane, 0, 0);
        refused(BAD, "lookNext", 0, pane, 0, 0);
        refused(BAD, "film", 0, pane, 0, 0);
        refused(NOTHING, "taken", pane, 0);
    }

    private static void withoutPanes() {
        check.group("promise 1: a house without PANES");
        in(() -> {
            WindowsGive x = new WindowsGive();
            x.sheet(0, 0, 0);
            return x;
        });
        noPane(0);
        check.due("views of one", made.get().views(0, 1, 0), -1);
    }

    private static void panesThatWent() {
        check.group("==== 2: PANES that came since go");
        in(() -> {
            WindowsGive x = house();
            x.back();
            return x;
        });
        noPane(2);
    }
}
