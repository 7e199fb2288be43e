/** Each promise of the document by itself: ordinary inputs, the edges it names, wrong inputs. */
public final class PromiseTests extends Make {
    private static final Checks check = new Checks();

    public static void main(String[] args) {
        newObject();
        set();
        pane();
        told();
        gives();
        feed();
        textNumbers();
        textFaults();
        textLengths();
        textDepth();
        textMeaning();
        force();
        panes();
        cost();
        earliest();
        loop();
        spots();
        brick();
        seen();
        lookNext();
        film();
        water();
        wettest();
        views();
        drawn();
        chance();
        imageAndBack();
        count();
        sheet();
        cell();
        copy();
        weathers();
        taken();
        check.end();
    }

    private static void newObject() {
        check.group("promise 1");
        WindowsGive x = new WindowsGive();
        check.due("count(0)", x.count(0), 0);
        check.due("count(1)", x.count(1), 1);
        check.due("count(2)", x.count(2), 0);
        check.due("count(3)", x.count(3), 0);
        check.due("count(4)", x.count(4), 0);
        for (int d = 0; d < 32; d++) {
            check.due("told(" + d + ", 0)", x.told(d, 0), 0);
        }
        for (int s = 0; s < 4; s++) {
            check.due("cell(" + s + ", 0, 0)", x.cell(s, 0, 0), -11);
        }
        check.due("NONE", WindowsGive.NONE, -1);
        check.due("BAD", WindowsGive.BAD, -2);
        check.due("STATE", WindowsGive.STATE, -3);
        check.due("FULL", WindowsGive.FULL, -4);
        check.due("NO", WindowsGive.NO, -4611686018427387904L);
    }

    private static void set() {
        check.group("promise 2");
        WindowsGive x = new WindowsGive();
        check.due("no pane yet", x.set(1, 0, 1), -100);
        x.pane(PANE, of(3, -4), 12);
        check.due("weather", x.set(0, 31, 9), 0);
        check.due("weather again", x.set(0, 31, 0), 9);
        check.due("number", x.set(1, 0, 9), 3);
        check.due("number again", x.set(1, 0, 0), 9);
        check.due("shift", x.set(2, 0, 9), -4);
        check.due("shift again", x.set(2, 0, -9), 9);
        check.due("room", x.set(3, 0, 5), 1);
        check.due("into", x.set(4, 0, 0), 2);
        check.due("shift is", x.told(0, 2), -9);
        check.due("room is", x.told(0, 3), 5);
        check.due("into is", x.told(0, 4), 0);
        int[][] wrong = {{-1, 0, 0}, {5, 0, 0}, {6, 0, 0}, {0, -1, 0}, {0, 32, 0}, {0, 0, -1}, {0, 0, 10},
            {1, 1, 0}, {1, -1, 0}, {1, 0, -1}, {1, 0, 10}, {2, 0, -10}, {2, 0, 10}, {2, 1, 0},
            {3, 0, -1}, {3, 0, 6}, {3, 1, 0}, {4, 0, -1}, {4, 0, 6}, {4, 8, 0}, {MAX, 0, 0}, {MIN, 0, 0},
            {0, MAX, 0}, {0, MIN, 0}, {1, MAX, 0}, {1, MIN, 0}, {0, 0, MAX}, {0, 0, MIN}};
        for (int[] w : wrong) {
            check.due("set(" + w[0] + ", " + w[1] + ", " + w[2] + ")", x.set(w[0], w[1], w[2]), -100);
        }
        check.due("kind stays", x.told(0, 5), PANE);
        check.due("weathers stay", x.count(4), 0);
    }

    private static void pane() {
        check.group("promise 3");
        WindowsGive x = new WindowsGive();
        int[][] wrong = {{-1, 9, 0}, {6, 9, 0}, {0, -1, 0}, {0, 19, 0}, {0, 99, 0}, {0, 919, 0}, {0, 1000, 0},
            {0, 1009, 0}, {0, 9, -1}, {0, 9, 6}, {0, 9, 9}, {0, 9, 56}, {0, 9, 60}, {0, 9, 100},
            {MAX, 9, 0}, {MIN, 9, 0}, {0, MAX, 0}, {0, MIN, 0}, {0, 9, MAX}, {0, 9, MIN}, {0, -91, 0}, {0, 9, -10}};
        for (int[] w : wrong) {
            check.due("pane(" + w[0] + ", " + w[1] + ", " + w[2] + ")", x.pane(w[0], w[1], w[2]), -2);
        }
        check.due("least", x.pane(PANE, 0, 0), 0);
        check.due("most", x.pane(FEAST, 918, 55), 1);
        check.due("between", x.pane(MIRROR, 412, 34), 2);
        check.due("least number", x.told(0, 1), 0);
        check.due("least shift", x.told(0, 2), -9);
        check.due("most number", x.told(1, 1), 9);
        check.due("most shift", x.told(1, 2), 9);
        check.due("most room", x.told(1, 3), 5);
        check.due("number", x.told(2, 1), 4);
        check.due("shift", x.told(2, 2), 3);
        check.due("room", x.told(2, 3), 3);
        check.due("into", x.told(2, 4), 4);
        check.due("kind", x.told(2, 5), MIRROR);
        for (int p = 3; p < 8; p++) {
            check.due("the next", x.pane(PANE, 9, 0), p);
        }
        check.due("full", x.pane(PANE, 9, 0), -4);
        check.due("bad ahead of full", x.pane(6, 9, 0), -2);
        check.due("eight", x.count(0), 8);
    }

    private static void told() {
        check.group("promise 4");
        WindowsGive x = new WindowsGive();
        x.set(0, 7, 8);
        check.due("weather", x.told(7, 0), 8);
        check.due("no pane", x.told(0, 1), -100);
        x.pane(LAGGING, of(2, -9), 15);
        x.pane(MIRROR, of(2, 0), 31);
        int[] lagging = {0, 2, -9, 1, 5, LAGGING, 5};
        for (int what = 1; what < 7; what++) {
            check.due("told(0, " + what + ")", x.told(0, what), lagging[what]);
        }
        check.due("into of a mirror", x.told(1, 4), 1);
        check.due("a mirror leads back", x.told(1, 6), 3);
        int[][] wrong = {{-1, 0}, {32, 0}, {2, 1}, {-1, 1}, {2, 6}, {0, 7}, {0, -1}, {MAX, 0}, {MIN, 1}, {0, MAX}};
        for (int[] w : wrong) {
            check.due("told(" + w[0] + ", " + w[1] + ")", x.told(w[0], w[1]), -100);
        }
    }

    private static void gives() {
        check.group("promise 5");
        WindowsGive x = new WindowsGive();
        for (int kind = 0; kind < 6; kind++) {
            x.pane(kind, of(2, 3), 1);
        }
        int[] on = {9, 7, 9, 7, 6, 15};
        String[] passing = {"110", "110", "010", "111", "100", "111"};
        for (int kind = 0; kind < 6; kind++) {
            check.due("on of kind " + kind, x.gives(kind, 6, -1), on[kind]);
            for (int sort = 0; sort < 3; sort++) {
                check.due("kind " + kind + " sort " + sort, x.gives(kind, 6, sort), passing[kind].charAt(sort) - '0');
            }
        }
        check.due("no feast", x.gives(FEAST, 7, 0), 0);
        check.due("a feast on day 0", x.gives(FEAST, 0, 2), 1);
        check.due("behind day 31", x.gives(PANE, 31, -1), 34);
        check.due("none passes behind day 31", x.gives(PANE, 31, 0), 0);
        check.due("the last day", x.gives(PANE, 28, 0), 1);
        check.due("the first behind", x.gives(PANE, 29, 0), 0);
        x.set(2, FEAST, -9);
        x.set(1, FEAST, 9);
        check.due("ahead of day 0", x.gives(FEAST, 0, -1), -90);
        check.due("none passes ahead of day 0", x.gives(FEAST, 0, 1), 0);
        x.set(2, CRACKED, -3);
        check.due("a crack back to day 0", x.gives(CRACKED, 5, 2), 1);
        check.due("a crack back to no day", x.gives(CRACKED, 4, 2), 0);
        int[][] wrong = {{-1, 0, 0}, {6, 0, 0}, {0, -1, 0}, {0, 32, 0}, {0, 0, -2}, {0, 0, 3},
            {MAX, 0, 0}, {MIN, 0, 0}, {0, MAX, 0}, {0, MIN, 0}, {0, 0, MAX}, {0, 0, MIN}};
        for (int[] w : wrong) {
            check.due("gives(" + w[0] + ", " + w[1] + ", " + w[2] + ")", x.gives(w[0], w[1], w[2]), -1000);
        }
    }

    private static void feed() {
        check.group("promise 6");
        WindowsGive x = new WindowsGive();
        check.due("feed(-1)", x.feed(-1), -2);
        check.due("feed(256)", x.feed(256), -2);
        check.due("feed(MIN)", x.feed(MIN), -2);
        check.due("feed(0)", x.feed(0), 1);
        check.due("feed(255)", x.feed(255), 2);
        for (int n = 3; n <= 160; n++) {
            check.due("feed, " + n, x.feed(32), n);
        }
        check.due("full", x.feed(32), -4);
        check.due("bad ahead of full", x.feed(256), -2);
        check.due("bytes", x.count(2), 160);
    }

    private static void textNumbers() {
        check.group("promise 7, numbers");
        WindowsGive x = new WindowsGive();
        check.due("nothing", x.text(), -100);
        for (int n = 1; n < 6; n++) {
            check.due("text " + n, textOf(x, "costs 1;wets 2;price 3;"), n);
            check.due("the tape is empty", x.count(2), 0);
        }
        check.due("full, with nothing on the tape", x.text(), -4);
        check.due("full ahead of a fault", textOf(x, "?"), -4);
        check.due("the tape stays", x.count(2), 1);
        check.due("texts", x.count(1), 6);
        WindowsGive y = new WindowsGive();
        check.due("a fault", textOf(y, "costs ;"), -106);
        check.due("the tape is empty by a fault", y.count(2), 0);
        check.due("no text came", y.count(1), 1);
    }

    private static void fault(String text, int place) {
        WindowsGive x = new WindowsGive();
        check.due("\"" + text + "\"", textOf(x, text), -100 - place);
    }

    private static void stands(String text) {
        WindowsGive x = new WindowsGive();
        check.due("\"" + text + "\"", textOf(x, text), 1);
    }

    private static void faultInPrice(String e, int place) {
        fault(price(e), "costs 1;wets 1;price ".length() + place);
    }

    private static void textFaults() {
        check.group("promise 7, faults");
        stands("costs1;wets2;price3;");
        stands(" \n costs\n1 ; wets 2\n;price 3;\n ");
        stands("costs 9999;wets 0000;price 1*day<2;");
        stands(price("not1or not-2and(3)"));
        fault("", 0);
        fault("   ", 3);
        fault("wets 1;", 0);
        fault("costs", 5);
        fault("costs  ", 7);
        fault("costs 1", 7);
        fault("costs 1 wets", 8);
        fault("costs 1;costs 2;", 8);
        fault("costs 1;wets 2;price 3", 22);
        fault("costs 1;wets 2;price 3; ;", 24);
        fault("costs 1;wets 2;price 3;costs", 23);
        fault("costs 1;wets 2;price 3;?", 23);
        fault("costs 1;\twets 2;price 3;", 8);
        fault("costs 1;\rwets 2;price 3;", 8);
        fault("Costs 1;wets 2;price 3;", 0);
        fault("costs 1;wets 2;price 3;" + (char) 255, 23);
        fault("costs 1;wets 2;price 3;" + (char) 0, 23);
        faultInPrice("", 0);
        faultInPrice("12345", 0);
        faultInPrice("1 + 00001", 4);
        faultInPrice("99999999999999999999", 0);
        faultInPrice("days", 0);
        faultInPrice("da", 0);
        faultInPrice("xay", 0);
        faultInPrice("dayz", 0);
        faultInPrice("aday", 0);
        faultInPrice("1 + rooms", 4);
        faultInPrice("price", 0);
        faultInPrice("1 2", 2);
        faultInPrice("1day", 1);
        faultInPrice("day1", 3);
        faultInPrice("1 +", 3);
        faultInPrice("1 + not 2", 4);
        faultInPrice("1 < not 2", 4);
        faultInPrice("- not 2", 2);
        faultInPrice("1 < 2 < 3", 6);
        faultInPrice("1 = 2 < 3", 6);
        faultInPrice("1 not 2", 2);
        faultInPrice("+ 1", 0);
        faultInPrice("* 1", 0);
        faultInPrice("( 1", 3);
        faultInPrice("( )", 2);
        faultInPrice("1 )", 2);
        faultInPrice("( 1 ; )", 4);
        faultInPrice("or 1", 0);
        faultInPrice("1 or", 4);
        faultInPrice("1 and or 2", 6);
        faultInPrice("1 / 2", 2);
        faultInPrice("1 <= 2", 3);
        faultInPrice("not", 3);
        for (int b = 0; b < 256; b++) {
            String alone = "" + (char) b;
            if (!alone.matches("[-(); \\n+*<=a-z0-9]")) {
                faultInPrice("1 + " + alone, 4);
                faultInPrice("1 " + alone + " 2", 2);
                fault(alone + " 1;wets 2;price 3;", 0);
            }
        }
        // The first token that can't stand counts, not a byte behind it.
        faultInPrice("1 2 ?", 2);
        stands(price("not not 1 < 2 and not day = 3 or (not 4) * - - 5 - - 6"));
        stands(price("(1 < 2) < 3"));
    }

    /** Tapes that are full to the last byte. */
    private static void textLengths() {
        check.group("promise 7, lengths");
        fault(";".repeat(160), 0);
        fault(" ".repeat(160), 160);
        fault("a".repeat(160), 0);
        fault("costs " + "1".repeat(154), 6);
        fault("costs " + "1+".repeat(77), 160);
        fault("costs 11" + "+1".repeat(76), 160);
        String full = "costs 1;wets 1;price(1" + "+1".repeat(68) + ");";
        check.due("a full tape", full.length(), 160);
        stands(full);
        stands(price("1") + " ".repeat(160 - price("1").length()));
        fault(price("1") + " ".repeat(159 - price("1").length()) + ";", 159);
        WindowsGive x = new WindowsGive();
        x.pane(PANE, of(0, 0), 0);
        textOf(x, full);
        x.force(1);
        check.due("all of it counts", x.views(0, 1, 0), 69);
    }

    private static void textDepth() {
        check.group("promise 7, depth");
        stands(price("(((((1)))))"));
        faultInPrice("((((((1))))))", 5);
        stands(price("not not not not not 1"));
        faultInPrice("not not not not not not 1", 20);
        stands(price("-----1"));
        faultInPrice("------1", 5);
        stands(price("not (not (-1))"));
        stands(price("not (not (- 1 * (2)))"));
        faultInPrice("not (not (- 1 * (-2)))", 17);
        faultInPrice("not (not (-(2)))", 11);
        faultInPrice("not (not (--2))", 11);
        faultInPrice("((((not(1)))))", 7);
        faultInPrice("(((( - -1))))", 7);
        faultInPrice("(((((not 1)))))", 5);
        // What has ended is open no more.
        stands(price("-----1 * -----2 - -----3"));
        stands(price("not not not not not 1 and not not not not not 2 or (((((3)))))"));
        stands(price("not not not not (1) < (2) and (((((3)))))"));
        faultInPrice("not not not not not 1 < (2)", 24);
        faultInPrice("not not not not not 1 + -2", 24);
        stands(price("not not not not not 1 - 2"));
        stands(price("-(---1) * (((((2)))))"));
        faultInPrice("-(----1)", 5);
    }

    /** The price of pane 1 (in room 4, number 7, shift -2) on day 5, of weather 6 on the day it is on. */
    private static int value(String e) {
        WindowsGive x = new WindowsGive();
        x.pane(BRICKED, of(0, 0), 0);
        x.pane(PANE, of(7, -2), 40);
        x.set(0, 3, 6);
        x.set(0, 5, 1);
        check.due("\"" + e + "\" stands", textOf(x, price(e)), 1);
        x.force(1);
        return x.views(5, 1, 0);
    }

    private static void textMeaning() {
        check.group("what texts tell");
        check.due("day", value("day"), 5);
        check.due("shift", value("10 + shift"), 8);
        check.due("number", value("number"), 7);
        check.due("weather", value("weather"), 6);
        check.due("window", value("window"), 1);
        check.due("room", value("room"), 4);
        check.due("below the bound", value("0 - 1"), 0);
        check.due("above the bound", value("100"), 99);
        check.due("at the bound", value("99"), 99);
        check.due("product ahead of sum", value("1 + 2 * 3"), 7);
        check.due("from the left", value("20 - 5 - 3"), 12);
        check.due("brackets", value("20 - (5 - 3)"), 18);
        check.due("minus of a one", value("- 2 * - 3"), 6);
        check.due("minus binds closer than a sum", value("- 2 + 5"), 3);
        check.due("wraps", value("9999 * 9999 * 9999 * 9999 - 9999 * 9999 * 9999 * 9999 + 4"), 4);
        int wrapped = 9999 * 9999 * 5000;
        check.due("wraps below", value("9999 * 9999 * 5000 < 0"), wrapped < 0 ? 1 : 0);
        check.due("less", value("2 < 3"), 1);
        check.due("not less", value("3 < 3"), 0);
        check.due("same", value("1 + 2 = 3"), 1);
        check.due("not same", value("2 = 3"), 0);
        check.due("and", value("7 and 8"), 1);
        check.due("and of 0", value("7 and 0"), 0);
        check.due("or", value("0 or 8"), 1);
        check.due("or of 0", value("0 or 0"), 0);
        check.due("or alone", value("8"), 8);
        check.due("not", value("not 0"), 1);
        check.due("not of true", value("not -3"), 0);
        check.due("not not", value("not not 7"), 1);
        check.due("not ahead of a comparison", value("not 1 = 0"), 1);
        check.due("and ahead of or", value("1 or 1 and 0"), 1);
        check.due("brackets of or", value("(1 or 1) and 0"), 0);
        check.due("less as a number", value("5 + (2 < 3) * 10"), 15);
        check.due("less of less", value("(3 < 2) < 1"), 1);
        check.due("four digits", value("9999 - 9989"), 10);
        WindowsGive x = new WindowsGive();
        x.pane(FEAST, of(1, 3), 0);
        textOf(x, "costs weather + 50 * shift - 299; wets 1 + weather; price 1;");
        x.force(1);
        x.set(0, 6, 9);
        check.due("costs at the least bound", x.cost(spot(0, 0), spot(0, 6), 0), 1);
        x.set(2, 0, 9);
        check.due("costs at most by waiting", x.cost(spot(0, 0), spot(0, 20), 0), 20);
    }

    private static void force() {
        check.group("promise 8");
        WindowsGive x = new WindowsGive();
        check.due("force(1) of none", x.force(1), -2);
        check.due("force(-1)", x.force(-1), -2);
        check.due("force(0)", x.force(0), 0);
        textOf(x, "costs 1;wets 1;price 50;");
        check.due("force(2)", x.force(2), -2);
        check.due("force(MAX)", x.force(MAX), -2);
        check.due("not in force", x.count(3), 0);
        x.pane(PANE, of(0, 0), 0);
        check.due("the first rule's price", x.views(0, 1, 0), 0);
        check.due("force(1)", x.force(1), 0);
        check.due("in force", x.count(3), 1);
        check.due("the new rule's price", x.views(0, 1, 0), 50);
        check.due("force(0) again", x.force(0), 1);
    }

    /** Panes: 0 from room 0 two days on into 1; 1 from 1 three days back into 0; 2 from 1 one on into 2 (things too). */
    private static WindowsGive threePanes() {
        WindowsGive x = new WindowsGive();
        x.pane(PANE, of(0, 2), 1);
        x.pane(PANE, of(4, -3), 10);
        x.pane(CRACKED, of(1, 2), 12);
        return x;
    }

    private static void panes() {
        check.group("promise 9");
        WindowsGive x = threePanes();
        check.due("its own", x.panes(40, 40, 0, 0), 0);
        check.due("its own, waiting", x.panes(40, 40, 0, 1), 0);
        check.due("by waiting", x.panes(spot(0, 3), spot(0, 9), 2, 0), 0);
        check.due("by waiting, days", x.panes(spot(0, 3), spot(0, 9), 2, 1), 6);
        check.due("by one", x.panes(spot(0, 3), spot(1, 9), 0, 0), 1);
        check.due("by one, days", x.panes(spot(0, 3), spot(1, 9), 0, 1), 4);
        check.due("back", x.panes(spot(0, 3), spot(0, 2), 1, 0), 2);
        check.due("back, days", x.panes(spot(0, 3), spot(0, 2), 1, 1), 0);
        check.due("far back", x.panes(spot(0, 3), spot(0, 0), 1, 0), 6);
        check.due("far back, days", x.panes(spot(0, 3), spot(0, 0), 1, 1), 0);
        check.due("no thing", x.panes(spot(0, 3), spot(1, 9), 2, 0), -1);
        check.due("no thing, days", x.panes(spot(0, 3), spot(1, 9), 2, 1), -1);
        check.due("a thing", x.panes(spot(1, 3), spot(2, 6), 2, 0), 1);
        check.due("a thing, days", x.panes(spot(1, 3), spot(2, 6), 2, 1), 2);
        check.due("day 31 is the last", x.panes(spot(0, 31), spot(1, 0), 0, 0), -1);
        int[][] wrong = {{-1, 0, 0, 0}, {192, 0, 0, 0}, {0, -1, 0, 0}, {0, 192, 0, 0}, {0, 0, -1, 0}, {0, 0, 3, 0},
            {0, 0, 0, -1}, {0, 0, 0, 2}, {MAX, 0, 0, 0}, {0, MIN, 0, 0}, {0, 0, MAX, 0}, {0, 0, 0, MIN}};
        for (int[] w : wrong) {
            check.due("panes(" + w[0] + ", " + w[1] + ", ..)", x.panes(w[0], w[1], w[2], w[3]), -2);
        }
    }

    private static void cost() {
        check.group("promise 10");
        WindowsGive x = threePanes();
        check.due("its own", x.cost(40, 40, 0), 0);
        check.due("by waiting", x.cost(spot(0, 3), spot(0, 9), 2), 6);
        check.due("by one", x.cost(spot(0, 3), spot(1, 9), 0), 5);
        check.due("back", x.cost(spot(0, 3), spot(0, 2), 0), 6);
        check.due("far back", x.cost(spot(0, 3), spot(0, 0), 0), 18);
        check.due("none", x.cost(spot(2, 3), spot(0, 5), 0), -1);
        check.due("no thing", x.cost(spot(0, 3), spot(1, 5), 2), -1);
        // A pass costs by the day on which it is passed.
        textOf(x, "costs 50 - 10 * day; wets 0; price 0;");
        x.force(1);
        check.due("waits for cheaper ones", x.cost(spot(0, 0), spot(1, 20), 0), 1 + 18);
        check.due("can't wait", x.cost(spot(0, 0), spot(1, 2), 0), 50);
        check.due("waits one day", x.cost(spot(0, 0), spot(1, 3), 0), 41);
        int[][] wrong = {{-1, 0, 0}, {192, 0, 0}, {0, -1, 0}, {0, 192, 0}, {0, 0, -1}, {0, 0, 3}, {MIN, 0, 0}, {0, MAX, 0}};
        for (int[] w : wrong) {
            check.due("cost(" + w[0] + ", " + w[1] + ", " + w[2] + ")", x.cost(w[0], w[1], w[2]), -2);
        }
    }

    private static void earliest() {
        check.group("promise 11");
        WindowsGive x = threePanes();
        check.due("its own room", x.earliest(spot(2, 7), 2, 0), 7);
        check.due("by loops back", x.earliest(spot(0, 9), 0, 1), 0);
        check.due("the other room", x.earliest(spot(0, 9), 1, 1), 2);
        check.due("the third", x.earliest(spot(0, 9), 2, 1), 3);
        check.due("a thing stays", x.earliest(spot(0, 9), 1, 2), -1);
        check.due("a thing", x.earliest(spot(1, 9), 2, 2), 10);
        check.due("too late", x.earliest(spot(0, 30), 1, 0), -1);
        check.due("waits for a feast", feastAt(9).earliest(spot(0, 1), 1, 2), 0);
        int[][] wrong = {{-1, 0, 0}, {192, 0, 0}, {0, -1, 0}, {0, 6, 0}, {0, 0, -1}, {0, 0, 3}, {MAX, 0, 0}, {0, MIN, 0}};
        for (int[] w : wrong) {
            check.due("earliest(" + w[0] + ", ..)", x.earliest(w[0], w[1], w[2]), -2);
        }
    }

    /** A feast from room 0, each tenth day, ten days back into room 1. */
    private static WindowsGive feastAt(int number) {
        WindowsGive x = new WindowsGive();
        x.pane(FEAST, of(number, -1), 1);
        return x;
    }

    private static void loop() {
        check.group("promise 12");
        WindowsGive x = threePanes();
        check.due("by two, waiting", x.loop(spot(0, 9), 0), 2);
        check.due("no thing", x.loop(spot(0, 9), 2), -1);
        check.due("never", x.loop(spot(2, 9), 0), -1);
        check.due("waits, then back", x.loop(spot(0, 0), 0), 2);
        check.due("too late", x.loop(spot(0, 30), 0), -1);
        check.due("starts in room 1", x.loop(spot(1, 9), 0), 2);
        WindowsGive mirror = new WindowsGive();
        mirror.pane(MIRROR, of(0, 5), 23);
        check.due("a mirror", mirror.loop(spot(2, 31), 0), 1);
        check.due("a mirror's sound", mirror.loop(spot(2, 31), 1), -1);
        check.due("another room", mirror.loop(spot(3, 31), 0), -1);
        WindowsGive same = new WindowsGive();
        same.pane(PANE, of(0, -9), 44);
        check.due("back, and waits", same.loop(spot(4, 9), 1), 1);
        check.due("goes to no day, waits on", same.loop(spot(4, 8), 1), 1);
        check.due("no more days", same.loop(spot(4, 0), 1), 1);
        int[][] wrong = {{-1, 0}, {192, 0}, {0, -1}, {0, 3}, {MAX, 0}, {0, MIN}};
        for (int[] w : wrong) {
            check.due("loop(" + w[0] + ", " + w[1] + ")", x.loop(w[0], w[1]), -2);
        }
    }

    private static void spots() {
        check.group("promise 13");
        WindowsGive x = threePanes();
        check.due("its room", x.spots(spot(2, 30), 0), 2);
        check.due("all back", x.spots(spot(0, 9), 1), 32 + 30 + 29);
        check.due("a thing", x.spots(spot(1, 9), 2), 23 + 22);
        check.due("the last", x.spots(191, 0), 1);
        int[][] wrong = {{-1, 0}, {192, 0}, {0, -1}, {0, 3}, {MIN, 0}, {0, MAX}};
        for (int[] w : wrong) {
            check.due("spots(" + w[0] + ", " + w[1] + ")", x.spots(w[0], w[1]), -2);
        }
    }

    private static void brick() {
        check.group("promise 14");
        WindowsGive x = threePanes();
        check.due("by waiting", x.brick(spot(0, 3), spot(0, 9), 0, 0), -1);
        check.due("by waiting, alone", x.brick(spot(0, 3), spot(0, 9), 0, 1), 0);
        check.due("its own", x.brick(7, 7, 0, 0), -1);
        check.due("its own, alone", x.brick(7, 7, 0, 1), 0);
        check.due("one of two", x.brick(spot(0, 3), spot(2, 9), 0, 0), 1);
        check.due("alone", x.brick(spot(0, 3), spot(2, 9), 0, 1), 5);
        check.due("back, one of two", x.brick(spot(0, 3), spot(0, 2), 0, 0), 1);
        check.due("back, alone", x.brick(spot(0, 3), spot(0, 2), 0, 1), 3);
        check.due("never there", x.brick(spot(2, 3), spot(0, 2), 0, 0), 0);
        check.due("never there, alone", x.brick(spot(2, 3), spot(0, 2), 0, 1), 7);
        // Two ways from room 0 to 5: by 3 and 4, by 5 and 6; 7 would be common, but is for looks alone.
        WindowsGive y = new WindowsGive();
        int[] ways = {34, 34, 34, 1, 15, 2, 25, 55};
        for (int w : ways) {
            y.pane(w == 55 ? MIRROR : PANE, of(0, 0), w);
        }
        check.due("one of each way, least bits", y.brick(0, spot(5, 5), 0, 0), 8 + 32);
        check.due("none alone", y.brick(0, spot(5, 5), 0, 1), 0);
        int[][] wrong = {{-1, 0, 0, 0}, {192, 0, 0, 0}, {0, -1, 0, 0}, {0, 192, 0, 0}, {0, 0, -1, 0}, {0, 0, 3, 0},
            {0, 0, 0, -1}, {0, 0, 0, 2}, {MAX, 0, 0, 0}, {0, MIN, 0, 1}, {0, 0, MAX, 0}, {0, 0, 0, MIN}};
        for (int[] w : wrong) {
            check.due("brick(" + w[0] + ", " + w[1] + ", ..)", x.brick(w[0], w[1], w[2], w[3]), -2);
        }
    }

    private static void seen() {
        check.group("promise 15");
        WindowsGive x = countedDays();
        x.pane(PANE, of(3, 4), 0);
        x.pane(MIRROR, of(0, 4), 0);
        fill(x, 0, 2, 6, 7, 8);
        check.due("just these", x.seen(0, 0, 2, 0), -1);
        check.due("otherwise at once", x.seen(0, 0, 3, 0), 0);
        fill(x, 1, 0, 6, 7, 9);
        check.due("otherwise at 2", x.seen(1, 0, 2, 0), 2);
        // 6 7 8 stand on days 6 and 16 and 26: from day 2 by shift 4 alone, from day 11 by -5 and 5.
        check.due("shifts", x.seen(0, 0, 2, 1), 1 << 13);
        check.due("two shifts", x.seen(0, 0, 11, 1), 1 << 4 | 1 << 14);
        check.due("no shift", x.seen(1, 0, 2, 1), 0);
        // As a lagging or cracked one it were on 2 + 4 - 3, as a feast it gives not on each day.
        check.due("kinds", x.seen(0, 0, 2, 2), 1);
        check.due("a mirror's shifts", x.seen(0, 1, 6, 1), (1 << 19) - 1);
        check.due("a mirror's kinds", x.seen(0, 1, 6, 2), 1 << MIRROR);
        fill(x, 2, 1, -1, -1);
        check.due("behind day 31", x.seen(2, 0, 31, 0), -1);
        fill(x, 2, 0, 255, -1);
        check.due("bytes have a sign", x.seen(2, 0, 31, 0), -1);
        fill(x, 2, 2, 255, -1);
        check.due("ints are no bytes", x.seen(2, 0, 31, 0), 0);
        fill(x, 2, 0);
        check.due("nothing told fits all shifts", x.seen(2, 0, 0, 1), (1 << 19) - 1);
        check.due("nothing told fits all kinds", x.seen(2, 0, 0, 2), 63);
        x.sheet(2, 0, 10);
        check.due("ten", x.seen(2, 0, 6, 0), 1);
        x.sheet(2, 0, 11);
        check.due("above ten", x.seen(2, 0, 0, 0), -2);
        check.due("missing", x.seen(3, 0, 0, 0), -11);
        check.due("what ahead of missing", x.seen(3, 0, 0, 3), -2);
        int[][] wrong = {{-1, 0, 0, 0}, {4, 0, 0, 0}, {0, -1, 0, 0}, {0, 2, 0, 0}, {0, 0, -1, 0}, {0, 0, 32, 0},
            {0, 0, 0, -1}, {0, 0, 0, 3}, {MAX, 0, 0, 0}, {0, MIN, 0, 0}, {0, 0, MAX, 0}, {0, 0, 0, MIN}};
        for (int[] w : wrong) {
            check.due("seen(" + w[0] + ", " + w[1] + ", ..)", x.seen(w[0], w[1], w[2], w[3]), -2);
        }
        check.due("nothing changed", x.told(0, 2), 4);
        check.due("kind stays", x.told(0, 5), PANE);
    }

    private static void lookNext() {
        check.group("promise 16");
        WindowsGive x = countedDays();
        x.pane(PANE, of(0, 0), 0);
        fill(x, 0, 0, 6, 7, 8);
        // Shifts -5 and 5: on day 0 the first shows none, the second 5.
        check.due("first of like ones", x.lookNext(0, 0, 11, 0), 0);
        check.due("unlike ones", x.lookNext(0, 0, 11, 1), 2);
        x.set(0, 5, 3);
        x.set(0, 10, 5);
        fill(x, 0, 0);
        // Weathers are 0 1 2 3 4 3 6 7 8 9 5 1 ..: day 0 may show all but 5, day 1 all, and both NONE.
        check.due("all shifts, most with NONE", x.lookNext(0, 0, 0, 1), 11);
        check.due("all shifts, the first of most", x.lookNext(0, 0, 0, 0), 1);
        WindowsGive y = countedDays();
        y.pane(PANE, of(0, 0), 0);
        y.sheet(0, 0, 0);
        check.due("ten weathers and NONE", y.lookNext(0, 0, 0, 1), 11);
        check.due("first on day 0", y.lookNext(0, 0, 0, 0), 0);
        fill(y, 0, 0, 99);
        check.due("none fits", y.lookNext(0, 0, 0, 1), 0);
        check.due("none fits: all days are like", y.lookNext(0, 0, 0, 0), 0);
        y.sheet(0, 0, 11);
        check.due("above ten", y.lookNext(0, 0, 0, 0), -2);
        check.due("missing", y.lookNext(1, 0, 0, 0), -11);
        check.due("what ahead of missing", y.lookNext(1, 0, 0, 2), -2);
        int[][] wrong = {{-1, 0, 0, 0}, {4, 0, 0, 0}, {0, -1, 0, 0}, {0, 2, 0, 0}, {0, 0, -1, 0}, {0, 0, 32, 0},
            {0, 0, 0, -1}, {0, 0, 0, 2}, {MAX, 0, 0, 0}, {0, MIN, 0, 0}, {0, 0, MAX, 0}, {0, 0, 0, MIN}};
        for (int[] w : wrong) {
            check.due("lookNext(" + w[0] + ", ..)", x.lookNext(w[0], w[1], w[2], w[3]), -2);
        }
    }

    private static void film() {
        check.group("promise 17");
        WindowsGive x = countedDays();
        x.pane(PANE, of(0, 3), 0);
        check.due("film", x.film(0, 0, 26, 10), 10);
        check.due("as shown", x.seen(0, 0, 26, 0), -1);
        int[] shown = {9, 0, 1, -1, -1, -1, -1, -1, -1, -1};
        fill(x, 1, 0, shown);
        check.due("bytes, so that they copy", x.copy(1, 0, 0, 0, 10), 10);
        check.due("the same", x.seen(0, 0, 26, 0), -1);
        x.sheet(0, 2, 40);
        check.due("over another row", x.film(0, 0, 0, 1), 1);
        check.due("one item", x.cell(0, 0, 0), 1);
        check.due("no more items", x.cell(0, 1, 0), -12);
        check.due("none", x.film(0, 0, 0, 0), 0);
        check.due("no item", x.cell(0, 0, 0), -12);
        check.due("it is bytes", x.weathers(0, 0, 0, 0), 0);
        x.sheet(2, 1, 3);
        int[][] wrong = {{-1, 0, 0, 0}, {4, 0, 0, 0}, {2, -1, 0, 0}, {2, 1, 0, 0}, {2, 0, -1, 0}, {2, 0, 32, 0},
            {2, 0, 0, -1}, {2, 0, 0, 11}, {MAX, 0, 0, 0}, {2, MIN, 0, 0}, {2, 0, MAX, 0}, {2, 0, 0, MIN}};
        for (int[] w : wrong) {
            check.due("film(" + w[0] + ", ..)", x.film(w[0], w[1], w[2], w[3]), -2);
        }
        check.due("refusals change nothing", x.weathers(2, 1, 0, 1), 1);
    }

    /** Into room 1: a crack one day on, a feast each third day, six days back; a pane that no thing passes. */
    private static WindowsGive wetHouse() {
        WindowsGive x = countedDays();
        x.pane(CRACKED, of(0, 1), 1);
        x.pane(FEAST, of(2, -2), 21);
        x.pane(PANE, of(0, 1), 1);
        return x;
    }

    private static void water() {
        check.group("promise 18");
        WindowsGive x = wetHouse();
        check.due("by the feast alone", x.water(1, 0), 0);
        check.due("by the crack", x.water(1, 1), 1);
        check.due("by both", x.water(1, 3), 6);
        check.due("the last day", x.water(1, 31), 1);
        check.due("not where it comes from", x.water(0, 3), 0);
        textOf(x, "costs 1; wets 10 * day + window; price 0;");
        x.force(1);
        check.due("told of the day it leaves", x.water(1, 3), 20 + 91);
        check.due("at the bound", x.water(1, 24), 99 + 99);
        int[][] wrong = {{-1, 0}, {6, 0}, {0, -1}, {0, 32}, {MAX, 0}, {0, MIN}};
        for (int[] w : wrong) {
            check.due("water(" + w[0] + ", " + w[1] + ")", x.water(w[0], w[1]), -2);
        }
    }

    private static void wettest() {
        check.group("promise 19");
        WindowsGive x = wetHouse();
        check.due("wettest", x.wettest(1, 0), 9);
        int together = 0;
        for (int d = 0; d < 32; d++) {
            together += x.water(1, d);
        }
        check.due("together", x.wettest(1, 1), together);
        textOf(x, "costs 1; wets day = 0; price 0;");
        x.force(1);
        x.set(2, 1, -9);
        check.due("day 1 alone", x.wettest(1, 0), 1);
        x.set(2, 0, -5);
        textOf(x, "costs 1; wets day = 5; price 0;");
        x.force(2);
        check.due("day 0 alone", x.wettest(1, 0), 0);
        x.set(2, 0, 0);
        textOf(x, "costs 1; wets day = 31; price 0;");
        x.force(3);
        check.due("day 31 alone", x.wettest(1, 0), 31);
        check.due("a dry room", x.wettest(3, 0), 0);
        check.due("a dry room, together", x.wettest(3, 1), 0);
        int[][] wrong = {{-1, 0}, {6, 0}, {0, -1}, {0, 2}, {MAX, 0}, {0, MIN}};
        for (int[] w : wrong) {
            check.due("wettest(" + w[0] + ", " + w[1] + ")", x.wettest(w[0], w[1]), -2);
        }
    }

    private static void views() {
        check.group("promise 20");
        WindowsGive x = countedDays();
        // On day 10 they give on days 11 .. 15; the last is bricked.
        int[] shifts = {1, 3, 2, 3, 5};
        for (int p = 0; p < 5; p++) {
            x.pane(p == 4 ? BRICKED : PANE, of(0, shifts[p]), p);
        }
        check.due("none", x.views(10, 0, 0), 0);
        check.due("none, panes", x.views(10, 0, 1), 0);
        check.due("one", x.views(10, 1, 0), 9);
        check.due("one, the first of like ones", x.views(10, 1, 1), 2);
        check.due("two", x.views(10, 2, 0), 18);
        check.due("two, panes", x.views(10, 2, 1), 24);
        check.due("three", x.views(10, 3, 0), 24);
        check.due("three, panes", x.views(10, 3, 1), 234);
        check.due("four", x.views(10, 4, 0), 27);
        check.due("four, panes", x.views(10, 4, 1), 1234);
        check.due("too few", x.views(29, 4, 0), -1);
        check.due("too few, panes", x.views(29, 4, 1), -1);
        check.due("two look on day 29", x.views(29, 2, 1), 13);
        textOf(x, "costs 1; wets 1; price 98 + window;");
        x.force(1);
        check.due("at the bound", x.views(10, 2, 0), 198);
        check.due("at the bound, the first", x.views(10, 2, 1), 23);
        int[][] wrong = {{-1, 0, 0}, {32, 0, 0}, {0, -1, 0}, {0, 5, 0}, {0, 0, -1}, {0, 0, 2}, {MAX, 0, 0}, {0, MIN, 0}};
        for (int[] w : wrong) {
            check.due("views(" + w[0] + ", ..)", x.views(w[0], w[1], w[2]), -2);
        }
    }

    /** All weathers that a seed draws, together, as a crack onto the same day brings them in. */
    private static int drawnTogether(int seed) {
        int together = 0;
        int z = seed;
        for (int d = 0; d < 32; d++) {
            z = z * 1103515245 + 12345;
            together += (z >>> 9) % 10;
        }
        return together;
    }

    private static WindowsGive crackedHouse() {
        WindowsGive x = new WindowsGive();
        x.pane(CRACKED, of(0, 0), 1);
        return x;
    }

    private static void drawn() {
        check.group("promise 21");
        WindowsGive x = crackedHouse();
        int[] seeds = {0, 1, -1, 77, MAX, MIN};
        for (int seed : seeds) {
            check.due("drawn(1, " + seed + ")", x.drawn(1, seed), drawnTogether(seed));
            check.due("drawn(0, " + seed + ")", x.drawn(0, seed), 0);
        }
        check.due("in thought", x.count(4), 0);
        check.due("water stays", x.wettest(1, 1), 0);
        check.due("drawn(-1, 0)", x.drawn(-1, 0), -2);
        check.due("drawn(6, 0)", x.drawn(6, 0), -2);
        check.due("drawn(MIN, 0)", x.drawn(MIN, 0), -2);
    }

    private static void chance() {
        check.group("promise 22");
        WindowsGive x = crackedHouse();
        int[] starts = {0, 5, -3, MAX - 2};
        for (int start : starts) {
            for (int most = 100; most < 200; most += 7) {
                int dry = 0;
                for (int i = 0; i < 12; i++) {
                    dry += drawnTogether(start + i) <= most ? 1 : 0;
                }
                int divisor = 12;
                while (dry % divisor != 0 || 12 % divisor != 0) {
                    divisor--;
                }
                check.due("above the line", x.chance(1, start, 12, most, 0), dry / divisor);
                check.due("below the line", x.chance(1, start, 12, most, 1), 12 / divisor);
            }
        }
        check.due("just as much", x.chance(1, 9, 1, drawnTogether(9), 0), 1);
        check.due("one less", x.chance(1, 9, 1, drawnTogether(9) - 1, 0), 0);
        check.due("all", x.chance(0, 9, 20, 0, 0), 1);
        check.due("all, below", x.chance(0, 9, 20, 99999, 1), 1);
        check.due("none, below", x.chance(1, 9, 20, 0, 1), 1);
        int[][] wrong = {{-1, 1, 0, 0}, {6, 1, 0, 0}, {0, 0, 0, 0}, {0, 21, 0, 0}, {0, 1, -1, 0}, {0, 1, 100000, 0},
            {0, 1, 0, -1}, {0, 1, 0, 2}, {MAX, 1, 0, 0}, {0, MIN, 0, 0}, {0, 1, MAX, 0}, {0, 1, 0, MIN}};
        for (int[] w : wrong) {
            check.due("chance(" + w[0] + ", ..)", x.chance(w[0], 3, w[1], w[2], w[3]), WindowsGive.NO);
        }
    }

    private static void imageAndBack() {
        check.group("promises 23, 24");
        WindowsGive x = new WindowsGive();
        check.due("no image", x.back(), -3);
        textOf(x, "costs 1;wets 1;price 1;");
        x.pane(PANE, of(1, 2), 34);
        x.set(0, 4, 5);
        check.due("image", x.image(), 1);
        x.set(0, 4, 6);
        x.set(1, 0, 9);
        x.set(2, 0, -9);
        x.set(3, 0, 0);
        x.set(4, 0, 1);
        x.force(1);
        x.pane(MIRROR, of(0, 0), 0);
        textOf(x, "costs 2;wets 2;price 2;");
        x.feed(50);
        x.sheet(0, 0, 3);
        check.due("back", x.back(), 1);
        check.due("weather", x.told(4, 0), 5);
        int[] due = {0, 1, 2, 3, 4, PANE};
        for (int what = 1; what < 6; what++) {
            check.due("told(0, " + what + ")", x.told(0, what), due[what]);
        }
        check.due("the rule", x.count(3), 0);
        check.due("panes that came since go", x.count(0), 1);
        check.due("gone", x.told(1, 5), -100);
        check.due("texts stay", x.count(1), 3);
        check.due("the tape stays", x.count(2), 1);
        check.due("sheets stay", x.cell(0, 2, 0), 1);
        check.due("another one comes", x.pane(FEAST, of(3, 3), 11), 1);
        check.due("of its own kind", x.told(1, 5), FEAST);
        check.due("back again", x.back(), 1);
        x.set(1, 0, 7);
        x.pane(BRICKED, of(0, 0), 0);
        x.force(2);
        check.due("a newer image", x.image(), 2);
        x.set(1, 0, 8);
        x.force(0);
        check.due("back to it", x.back(), 2);
        check.due("its number", x.told(0, 1), 7);
        check.due("its rule", x.count(3), 2);
        WindowsGive empty = new WindowsGive();
        check.due("an empty image", empty.image(), 0);
        empty.pane(PANE, 9, 0);
        check.due("back to nothing", empty.back(), 0);
    }

    private static void count() {
        check.group("promise 25");
        WindowsGive x = new WindowsGive();
        x.pane(PANE, 9, 0);
        x.pane(PANE, 9, 0);
        x.set(0, 0, 9);
        x.set(0, 31, 8);
        textOf(x, "costs 1;wets 1;price 1;");
        textOf(x, "costs 1;wets 1;price 1;");
        x.force(2);
        feedAll(x, "abc");
        int[] due = {2, 3, 3, 2, 17};
        for (int what = 0; what < 5; what++) {
            check.due("count(" + what + ")", x.count(what), due[what]);
        }
        check.due("count(-1)", x.count(-1), -2);
        check.due("count(5)", x.count(5), -2);
        check.due("count(MAX)", x.count(MAX), -2);
    }

    private static void sheet() {
        check.group("promise 26");
        WindowsGive x = new WindowsGive();
        check.due("none such", x.sheet(-1, 0, 0), -2);
        check.due("none such", x.sheet(4, 0, 0), -2);
        check.due("sort", x.sheet(0, -2, 0), -2);
        check.due("sort", x.sheet(0, 3, 0), -2);
        check.due("sort ahead of size", x.sheet(0, 3, -1), -2);
        check.due("above 40", x.sheet(0, 0, 41), -2);
        check.due("above 40", x.sheet(0, 0, MAX), -2);
        check.due("below 0", x.sheet(0, 0, -1), -14);
        check.due("below 0", x.sheet(0, 2, MIN), -14);
        check.due("still missing", x.cell(0, 0, 0), -11);
        check.due("most", x.sheet(0, 2, 40), 1);
        check.due("its last", x.cell(0, 39, 5), 1);
        check.due("least", x.sheet(1, 1, 0), 1);
        check.due("no item", x.cell(1, 0, 0), -12);
        check.due("refused", x.sheet(0, 0, 41), -2);
        check.due("stays", x.cell(0, 39, 5), 1);
        check.due("anew", x.sheet(0, 2, 40), 1);
        x.pane(PANE, 9, 0);
        x.sheet(0, 2, 1);
        check.due("all 0", x.seen(0, 0, 0, 0), -1);
        check.due("missing, n does not matter", x.sheet(0, -1, 41), 1);
        check.due("missing", x.cell(0, 0, 0), -11);
        check.due("missing, n does not matter", x.sheet(0, -1, -1), 1);
    }

    private static void cell() {
        check.group("promise 27");
        WindowsGive x = countedDays();
        x.pane(PANE, of(0, 0), 0);
        check.due("none such", x.cell(-1, 0, 0), -2);
        check.due("none such", x.cell(4, 0, 0), -2);
        check.due("missing", x.cell(0, -1, 0), -11);
        for (int sort = 0; sort < 3; sort++) {
            x.sheet(sort, sort, 2);
            check.due("ahead", x.cell(sort, -1, 0), -12);
            check.due("behind", x.cell(sort, 2, 0), -12);
            check.due("far", x.cell(sort, MAX, 0), -12);
            check.due("far", x.cell(sort, MIN, 0), -12);
            x.cell(sort, 0, 0x10005);
            check.due("16 bits of sort " + sort, x.seen(sort, 0, 5, 0), sort < 2 ? 1 : 0);
            x.cell(sort, 0, 0x105);
            check.due("8 bits of sort " + sort, x.seen(sort, 0, 5, 0), sort < 1 ? 1 : 0);
            x.cell(sort, 0, 5);
            x.cell(sort, 1, 6);
            check.due("both", x.seen(sort, 0, 5, 0), -1);
        }
    }

    private static void copy() {
        check.group("promise 28");
        WindowsGive x = countedDays();
        x.pane(PANE, of(0, 0), 0);
        fill(x, 0, 1, 1, 2, 3, 4, 5);
        x.sheet(1, 1, 3);
        x.sheet(2, 2, 3);
        check.due("none such", x.copy(-1, 0, 0, 0, 0), -2);
        check.due("none such", x.copy(0, 0, 4, 0, 0), -2);
        check.due("bad ahead of missing", x.copy(3, 0, 4, 0, 0), -2);
        check.due("missing", x.copy(0, 0, 3, 0, 0), -11);
        check.due("missing", x.copy(3, 0, 0, 0, 0), -11);
        check.due("unlike", x.copy(0, 0, 2, 0, 0), -13);
        check.due("unlike ahead of outside", x.copy(0, -1, 2, 0, -1), -13);
        int[][] outside = {{-1, 0, 1}, {0, -1, 1}, {0, 0, -1}, {3, 0, 3}, {0, 1, 3}, {6, 0, 0}, {0, 4, 0},
            {MAX, 0, 1}, {0, MAX, 1}, {0, 0, MAX}, {1, 1, MAX}, {MIN, 0, 0}, {0, MIN, 0}, {0, 0, MIN}, {MAX, MAX, MAX}};
        for (int[] o : outside) {
            check.due("copy(0, " + o[0] + ", 1, " + o[1] + ", " + o[2] + ")", x.copy(0, o[0], 1, o[1], o[2]), -12);
        }
        check.due("none, at the ends", x.copy(0, 5, 1, 3, 0), 0);
        check.due("three", x.copy(0, 1, 1, 0, 3), 3);
        check.due("they came", x.seen(1, 0, 2, 0), -1);
        check.due("one", x.copy(0, 4, 1, 0, 1), 1);
        check.due("one came", x.seen(1, 0, 2, 0), 0);
        check.due("on", x.copy(0, 0, 0, 1, 4), 4);
        fill(x, 1, 1, 1, 1, 2, 3, 4);
        check.due("as they were, on", same(x, 0, 1, 5), 1);
        check.due("back", x.copy(0, 1, 0, 0, 4), 4);
        fill(x, 1, 1, 1, 2, 3, 4, 4);
        check.due("as they were, back", same(x, 0, 1, 5), 1);
    }

    /** 1, if two sheets of pairs of days and weathers tell the same, item by item. */
    private static int same(WindowsGive x, int sheet, int other, int n) {
        for (int i = 0; i < n; i++) {
            if (item(x, sheet, i) != item(x, other, i)) {
                return 0;
            }
        }
        return 1;
    }

    /** An item (0 .. 9) of a sheet of shorts, read by weathers() on a house of its own day 0. */
    private static int item(WindowsGive x, int sheet, int i) {
        x.sheet(3, 1, 2);
        x.copy(sheet, i, 3, 1, 1);
        int before = x.told(0, 0);
        x.weathers(3, 1, 0, 1);
        return x.set(0, 0, before);
    }

    private static void weathers() {
        check.group("promise 29");
        WindowsGive x = new WindowsGive();
        fill(x, 0, 0, 0, 9, 31, 0, 32, 1, -1, 1, 3, 10, 3, -1, 4, 5);
        int[][] bad = {{-1, 0, 0}, {4, 0, 0}, {0, -1, 0}, {0, 3, 0}, {0, 0, -1}, {0, 0, 21}, {1, 0, 21}, {0, 1, 21}};
        for (int[] b : bad) {
            check.due("weathers(" + b[0] + ", " + b[1] + ", 0, " + b[2] + ")", x.weathers(b[0], b[1], 0, b[2]), -2);
        }
        check.due("another sort", x.weathers(0, 1, 0, 1), -13);
        check.due("another sort ahead of outside", x.weathers(0, 2, -1, 1), -13);
        check.due("missing", x.weathers(1, 2, -1, 1), -11);
        check.due("missing, none asked", x.weathers(1, 0, 0, 0), -11);
        check.due("none", x.weathers(0, 0, 0, 0), 0);
        check.due("none, from anywhere", x.weathers(0, 0, 99, 0), 0);
        check.due("ahead", x.weathers(0, 0, -1, 1), -12);
        check.due("behind", x.weathers(0, 0, 14, 1), -12);
        check.due("far", x.weathers(0, 0, MAX, 20), -12);
        check.due("far ahead", x.weathers(0, 0, MIN, 20), -12);
        check.due("nothing yet", x.count(4), 0);
        check.due("three of seven", x.weathers(0, 0, 0, 7), 3);
        check.due("day 0", x.told(0, 0), 9);
        check.due("day 4", x.told(4, 0), 5);
        check.due("day 3 left out", x.told(3, 0), 0);
        x.set(0, 4, 0);
        check.due("half a pair", x.weathers(0, 0, 11, 2), -12);
        check.due("runs out", x.weathers(0, 0, 12, 2), -12);
        check.due("what stood ahead became so", x.told(4, 0), 5);
        fill(x, 2, 2, 7, 7);
        check.due("ints", x.weathers(2, 2, 0, 1), 1);
        check.due("the same again", x.weathers(2, 2, 0, 1), 1);
        x.sheet(3, 1, 40);
        check.due("twenty", x.weathers(3, 1, 0, 20), 20);
    }

    private static void taken() {
        check.group("promise 30");
        WindowsGive x = new WindowsGive();
        for (int kind = 0; kind < 6; kind++) {
            x.pane(kind, of(kind + 2, 0), 0);
        }
        String[] under = {"100000", "110000", "101000", "110100", "101010", "100001"};
        for (int kind = 0; kind < 6; kind++) {
            for (int k = 0; k < 6; k++) {
                int due = under[kind].charAt(k) == '1' ? kind + 2 : -13;
                check.due("taken(" + kind + ", " + k + ")", x.taken(kind, k), due);
            }
        }
        check.due("no such pane", x.taken(6, 0), -11);
        check.due("no such pane", x.taken(-1, 0), -11);
        check.due("no such pane", x.taken(MAX, 5), -11);
        check.due("no such kind", x.taken(0, 6), -2);
        check.due("no such kind", x.taken(0, -1), -2);
        check.due("kind ahead of pane", x.taken(6, 6), -2);
    }
}
