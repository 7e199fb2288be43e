import java.util.List;

/** A test for each sentence of the document that names an edge of texts; groups are its words. */
public final class TextBoundaryTests extends Make {
    private static final Checks check = new Checks();
    private static final String AHEAD = "costs 1;wets 1;price ";
    private static final List<String> NAMES = List.of("day", "shift", "number", "weather", "window", "room");
    private static final List<String> KEYS = List.of("costs", "wets", "price", "or", "and", "not");

    public static void main(String[] args) {
        tape();
        longTokens();
        words();
        numbers();
        signs();
        blanks();
        parts();
        endsTooEarly();
        sums();
        conditions();
        firstFaultCounts();
        openAlone();
        openTogether();
        openEnds();
        wrapping();
        truth();
        bounds();
        names();
        firstRule();
        textsAtMost();
        emptyAfter();
        check.end();
    }

    private static void stands(String text) {
        check.due("\"" + text + "\"", textOf(new WindowsGive(), text), 1);
    }

    private static void fault(String text, int place) {
        check.due("\"" + text + "\"", textOf(new WindowsGive(), text), -100 - place);
    }

    private static void standsAs(String e) {
        stands(price(e));
    }

    private static void faultIn(String e, int place) {
        fault(price(e), AHEAD.length() + place);
    }

    /** What an E tells, of 0 .. 99: as a price, of a pane on the day it is on. */
    private static void tells(String e, int due) {
        WindowsGive x = paneOf(PANE, 0, 0, 0);
        check.due("\"" + e + "\" stands", textOf(x, price(e)), 1);
        x.force(1);
        check.due("\"" + e + "\"", x.views(0, 1, 0), due);
    }

    // ---- the tape and its tokens

    private static void tape() {
        check.group("THE TAPE (160 bytes at most)");
        WindowsGive x = new WindowsGive();
        for (int n = 1; n <= 160; n++) {
            check.due("byte " + n, x.feed(n), n);
        }
        check.due("one more", x.feed(1), -4);
        check.due("it has", x.count(2), 160);
        check.group("a TEXT of 160 bytes");
        String full = price("1" + "+1".repeat(68));
        stands(full + " ".repeat(160 - full.length()));
        stands(" ".repeat(160 - full.length()) + full);
        fault(full.substring(0, full.length() - 1) + " ".repeat(161 - full.length()), 160);
        fault(full + " ".repeat(159 - full.length()) + "1", 159);
        tells("1" + "+1".repeat(68), 69);
        check.group("a TEXT of no bytes");
        fault("", 0);
        check.group("a TEXT of 160 bytes, one token each");
        fault("(".repeat(160), 0);
        fault("costs" + "(".repeat(155), 10);
        fault("costs 1" + "*1".repeat(76) + "*", 160);
    }

    private static void longTokens() {
        check.group("TOKENS, each as long as can be");
        stands("costs1;wets2;price3;");
        standsAs("not1");
        standsAs("1or not1and day<number");
        faultIn("notday", 0);
        faultIn("dayor1", 0);
        faultIn("or1", 0);
        faultIn("dayday", 0);
        fault("costswets 1;", 0);
        fault("pricecosts", 0);
        faultIn("1day", 1);
        faultIn("day1", 3);
        faultIn("123456789", 0);
    }

    private static void words() {
        check.group("WORDS (a .. z)");
        for (char near : new char[] {'a' - 1, 'z' + 1, 'A', 'Z'}) {
            faultIn("1 " + near, 2);
            faultIn("day" + near, 3);
            fault("costs" + near, 5);
        }
        check.group("a WORD that is neither KEY nor NAME");
        for (String name : NAMES) {
            standsAs(name);
            standsAs("1 +" + name);
            String less = name.substring(0, name.length() - 1);
            for (String other : List.of(name + "s", name + "z", "a" + name, less, name.substring(1), less + "z",
                    "z" + name.substring(1), name + name)) {
                faultIn("1 + " + other, 4);
                faultIn("1 " + other, 2);
            }
        }
        for (char letter = 'a'; letter <= 'z'; letter++) {
            faultIn("" + letter, 0);
        }
        for (String key : List.of("costs", "wets", "price")) {
            fault("z" + key.substring(1) + " 1;", 0);
            fault(key + "z 1;", 0);
            fault(key.substring(0, key.length() - 1) + " 1;", 0);
        }
        check.group("a KEY that can't stand there");
        for (String key : KEYS) {
            if (!key.equals("not")) {
                faultIn(key, 0);
            }
            faultIn("1 + " + key, 4);
            if (!key.equals("or") && !key.equals("and")) {
                faultIn("1 " + key, 2);
            }
        }
    }

    private static void numbers() {
        check.group("NUMBERS (as many digits as stand there, 4 at most)");
        standsAs("0");
        standsAs("0000");
        standsAs("9999");
        tells("9999 = 9 * 1111", 1);
        tells("0099", 99);
        tells("0009", 9);
        check.group("a NUMBER that is too long");
        faultIn("10000", 0);
        faultIn("00000", 0);
        faultIn("1 + 99999", 4);
        faultIn("4294967297", 0);
        fault("costs " + "0".repeat(154), 6);
        check.group("what stands beside digits");
        faultIn("1 /", 2);
        faultIn("1 :", 2);
    }

    private static void signs() {
        check.group("SIGNS ( ) ; + - * < = ; a byte that begins none");
        String begins = "();+-*<= \nabcdefghijklmnopqrstuvwxyz0123456789";
        for (int b = 0; b < 256; b++) {
            if (begins.indexOf(b) < 0) {
                fault("" + (char) b, 0);
                faultIn("" + (char) b, 0);
                faultIn("1 " + (char) b, 2);
                fault(price("1") + (char) b, AHEAD.length() + 2);
            }
        }
        standsAs("(1)+(2)-(3)*(4)<(5)and(6)=(7)");
        faultIn("1 <= 2", 3);
        faultIn("1 == 2", 3);
        faultIn("1 ++ 2", 3);
        faultIn("1 ** 2", 3);
        standsAs("1 -- 2");
    }

    private static void blanks() {
        check.group("blanks (32, 10) may stand between");
        stands(" \n costs\n\n1 ; \n wets\n2\n;\nprice ( \n 3 \n + - \n day ) ;\n \n");
        stands("costs 1;wets 1;price not\nnot 1 or\n2\nand\n3;");
        check.group("other bytes are no blanks");
        for (int b : new int[] {0, 8, 9, 11, 12, 13, 31, 33, 127, 128, 133, 160, 255}) {
            fault((char) b + price("1"), 0);
            fault("costs" + (char) b + "1;wets 1;price 1;", 5);
            fault(price("1") + (char) b, AHEAD.length() + 2);
        }
        check.group("blanks part TOKENS");
        fault("co sts 1;", 0);
        faultIn("1 2", 2);
        faultIn("da y", 0);
        faultIn("day day", 4);
        faultIn("no t 1", 0);
    }

    // ---- the grammar

    private static void parts() {
        check.group("TEXT: costs E ; wets E ; price E ;");
        stands("costs 1;wets 2;price 3;");
        fault("wets 2;costs 1;price 3;", 0);
        fault("price 3;", 0);
        fault("1", 0);
        fault(";", 0);
        fault("costs 1;price 3;wets 2;", 8);
        fault("costs 1;costs 1;", 8);
        fault("costs 1;wets 2;wets 2;", 15);
        fault("costs 1 wets 2;", 8);
        fault("costs 1;wets 2 price 3;", 15);
        fault("costs;", 5);
        fault("costs 1;wets;", 12);
        fault("costs 1;wets 2;price;", 20);
        fault("costs 1;;", 8);
        check.group("nothing behind a TEXT");
        for (String more : List.of(";", "1", "costs", "day", "(", "or", "-")) {
            fault("costs 1;wets 2;price 3; " + more, 24);
        }
    }

    private static void endsTooEarly() {
        check.group("the text's size, if it ends too early");
        String text = "costs ( 1 + 2 ) * - day ; wets not 1 < 2 or 3 and 4 ; price 5 ;";
        stands(text);
        int[] ends = {0, 5, 7, 9, 11, 13, 15, 17, 19, 23, 25, 30, 34, 36, 38, 40, 43, 45, 49, 51, 53, 59, 61};
        for (int end : ends) {
            fault(text.substring(0, end), end);
            fault(text.substring(0, end) + " \n ", end + 3);
        }
        fault("   ", 3);
        fault(" ".repeat(160), 160);
    }

    private static void sums() {
        check.group("SUM: TERM { + or - TERM }. TERM: ONE { * ONE }");
        standsAs("1");
        standsAs("1 * 2 * 3 - 4 * 5 + 6");
        tells("9 - 3 - 2", 4);
        tells("9 - 3 + 2", 8);
        tells("9 - 2 * 3", 3);
        tells("2 * 3 - 1", 5);
        faultIn("1 +", 3);
        faultIn("1 *", 3);
        faultIn("* 1", 0);
        faultIn("+ 1", 0);
        faultIn("1 + * 2", 4);
        check.group("ONE: a NUMBER, a NAME, - ONE, ( E )");
        tells("- - 3", 3);
        tells("5 * - - 3", 15);
        tells("(((7)))", 7);
        tells("2 * (1 or 0)", 2);
        faultIn("()", 1);
        faultIn("(1", 2);
        faultIn("1)", 1);
        faultIn("(1;", 2);
        faultIn("(1))", 3);
        faultIn("-", 1);
        faultIn("- + 1", 2);
        faultIn("- not 1", 2);
        faultIn("1 + not 2", 4);
        faultIn("2 * not 1", 4);
    }

    private static void conditions() {
        check.group("NOT: perhaps < or = and a SUM");
        tells("1 < 2", 1);
        tells("1 + 1 = 2", 1);
        faultIn("1 < 2 < 3", 6);
        faultIn("1 = 2 = 3", 6);
        faultIn("1 < 2 = 3", 6);
        faultIn("< 1", 0);
        faultIn("1 <", 3);
        faultIn("1 < not 2", 4);
        tells("(1 < 2) < 3", 1);
        check.group("not NOT");
        tells("not 0", 1);
        tells("not not 5", 1);
        tells("not 1 < 2", 0);
        tells("not 2 < 1", 1);
        tells("not 0 = 1", 1);
        faultIn("not", 3);
        faultIn("not or", 4);
        faultIn("1 not", 2);
        check.group("E: AND { or AND }. AND: NOT { and NOT }");
        tells("1 or 0 and 0", 1);
        tells("0 and 0 or 1", 1);
        tells("0 and 1 or 0", 0);
        tells("0 or 0 or 1", 1);
        tells("1 and 1 and 0", 0);
        tells("1 and not 0", 1);
        tells("not 1 or 1", 1);
        tells("not 0 and 0", 0);
        faultIn("1 or", 4);
        faultIn("1 and", 5);
        faultIn("or 1", 0);
        faultIn("1 and or 1", 6);
        faultIn("1 or and 1", 5);
    }

    private static void firstFaultCounts() {
        check.group("FAULT: the first TOKEN that can't stand there");
        faultIn("1 2 ?", 2);
        faultIn("1 ? 2 2", 2);
        faultIn("1 + ) 12345", 4);
        faultIn("12345 + )", 0);
        faultIn("1 12345", 2);
        fault("?" + price("1"), 0);
        fault("costs 1 1;wets ?;price 3;", 8);
    }

    // ---- 5 of these are open

    private static void openAlone() {
        check.group("a ( while 5 of these are open");
        standsAs("(((((1)))))");
        faultIn("((((((1))))))", 5);
        faultIn("((((( (", 6);
        check.group("a not while 5 of these are open");
        standsAs("not not not not not 1");
        faultIn("not not not not not not 1", 20);
        check.group("a - ahead of a ONE while 5 of these are open");
        standsAs("- - - - - 1");
        faultIn("- - - - - - 1", 10);
        standsAs("(((((1 - 2)))))");
        faultIn("(((((1 - - 2)))))", 9);
    }

    private static void openTogether() {
        check.group("of these: ( and not and - count together");
        String[] opens = {"( ", "not ", "- "};
        for (int mix = 0; mix < 243; mix++) {
            StringBuilder five = new StringBuilder();
            StringBuilder closed = new StringBuilder();
            boolean may = true;
            boolean minus = false;
            int left = mix;
            for (int n = 0; n < 5; n++, left /= 3) {
                // What stands behind a - is a ONE: no not.
                may &= !(minus && left % 3 == 1);
                minus = left % 3 == 2;
                five.append(opens[left % 3]);
                closed.append(left % 3 == 0 ? ")" : "");
            }
            if (may) {
                standsAs(five + "1" + closed);
                faultIn(five + "(1)" + closed, five.length());
                faultIn(five + "-1" + closed, five.length());
                faultIn(five + "not 1" + closed, five.length());
            }
        }
    }

    private static void openEnds() {
        check.group("a ( till its )");
        standsAs("(((((1))))) + (((((2)))))");
        standsAs("((((1) + (2) * (3) - -4))) < (((((5)))))");
        faultIn("(((((1) + ((2)))))", 11);
        check.group("- till what they belong to ends");
        standsAs("-----1 * -----2 + -----3 - -----4");
        standsAs("----(1) - (((((2)))))");
        standsAs("(---1 * ((((2)))))");
        faultIn("----(1 * -2)", 9);
        faultIn("----(1 * (2))", 9);
        check.group("not till what they belong to ends");
        standsAs("not not not not not 1 and not not not not not 2 or (((((3)))))");
        standsAs("not not not not not 1 + 2 < 3");
        faultIn("not not not not not 1 + (2) < 3", 24);
        faultIn("not not not not not 1 + 2 < (3)", 28);
        faultIn("not not not not not 1 * -2", 24);
        faultIn("not not not not not -1", 20);
        standsAs("not not not not -1 and -----1");
        check.group("what was open ahead of ; is open no more");
        stands("costs not not not not not 1;wets -----1;price (((((1)))));");
    }

    // ---- what an E is

    private static void wrapping() {
        // The greatest int, of numbers of four digits.
        String most = "(2147*1000*1000+483*1000+647)";
        check.group("An E is an int (32 bits, wrapping)");
        tells("0 < " + most, 1);
        tells(most + " + 1 < 0", 1);
        tells("0 < -" + most + " - 2", 1);
        tells("-" + most + " - 1 < 0", 1);
        tells("-(-" + most + " - 1) < 0", 1);
        tells(most + " * 2 = -2", 1);
        tells("9999 * 9999 * 9999 = " + (9999 * 9999 * 9999 < 0 ? "0 - " : "") + split(Math.abs(9999 * 9999 * 9999)), 1);
        tells("8192 * 8192 * 64 = 0", 1);
        tells("8192 * 8192 * 32 < 0", 1);
        tells("8192 * 8192 * 16 < 0", 0);
        tells(most + " < -1", 0);
    }

    private static String split(int v) {
        return "(" + v / 1000000 + " * 1000 * 1000 + " + v / 1000 % 1000 + " * 1000 + " + v % 1000 + ")";
    }

    private static void truth() {
        check.group("of or, and, not, <, = 1 or 0 (what is not 0 is true)");
        int[] values = {-2, -1, 0, 1, 2, 99};
        for (int a : values) {
            String left = "(0 + " + (a < 0 ? "-" : "") + Math.abs(a) + ")";
            tells("not " + left, a == 0 ? 1 : 0);
            tells("not not " + left, a == 0 ? 0 : 1);
            for (int b : values) {
                String right = (b < 0 ? "-" : "") + Math.abs(b);
                tells("10 + (" + left + " or " + right + ")", a != 0 || b != 0 ? 11 : 10);
                tells("10 + (" + left + " and " + right + ")", a != 0 && b != 0 ? 11 : 10);
                tells("10 + (" + left + " < " + right + ")", a < b ? 11 : 10);
                tells("10 + (" + left + " = " + right + ")", a == b ? 11 : 10);
            }
        }
    }

    private static void bounds() {
        int[] values = {MIN, -9999, -1, 0, 1, 2, 98, 99, 100, 101, 9999, MAX};
        for (int v : values) {
            // As no number has more than four digits, the least and the most one are reckoned.
            String e = v == MAX ? "8192*8192*32-1" : v == MIN ? "8192*8192*32" : (v < 0 ? "-" : "") + Math.abs(v);
            check.group("costs (1 .. 99, else the bound)");
            WindowsGive x = paneOf(CRACKED, 0, 0, 1);
            rule(x, e, "5", "5");
            check.due("costs " + e, x.cost(0, 32, 2), Math.max(1, Math.min(99, v)));
            check.group("wets (0 .. 99, else the bound)");
            rule(x, "5", e, "5");
            check.due("wets " + e, x.water(1, 9), Math.max(0, Math.min(99, v)));
            check.group("price (0 .. 99, else the bound)");
            rule(x, "5", "5", e);
            check.due("price " + e, x.views(9, 1, 0), Math.max(0, Math.min(99, v)));
        }
    }

    // ---- of a pane on a day

    private static void named(WindowsGive x, int text, String e, int day, int due) {
        check.due("\"" + e + "\" stands", textOf(x, price(e)), text);
        x.force(text);
        check.due("\"" + e + "\" on day " + day, x.views(day, 1, 0), due);
    }

    private static void names() {
        check.group("day; shift: SHIFT; number: NUMBER; window: the PANE's number; room: the ROOM it is in");
        WindowsGive x = new WindowsGive();
        for (int p = 0; p < 7; p++) {
            x.pane(BRICKED, of(0, 0), 0);
        }
        x.pane(MIRROR, of(9, -9), 50);
        named(x, 1, "day", 31, 31);
        named(x, 2, "shift + 9", 0, 0);
        x.set(2, 7, 9);
        check.due("the most shift", x.views(0, 1, 0), 18);
        named(x, 3, "number", 0, 9);
        named(x, 4, "window", 0, 7);
        named(x, 5, "room", 0, 5);
        check.group("weather: WEATHER of the DAY it is ON (0, if it is none)");
        WindowsGive y = countedDays();
        y.pane(FEAST, of(0, 4), 1);
        rule(y, "1", "weather", "1 + weather");
        check.due("of the day it is on", y.views(3, 1, 0), 1 + 7);
        check.due("of day 31", y.views(27, 1, 0), 1 + 1);
        y.set(2, 0, -4);
        check.due("of day 0", y.views(4, 1, 0), 1);
        check.due("of day 1", y.views(5, 1, 0), 2);
        y.set(2, 0, 9);
        check.due("water of the day it is on", y.water(1, 18), 8);
        // What gives on no day lets nothing pass, so its weather is in no answer: none of its water counts.
        check.due("no water of days that are none", y.wettest(1, 1), 9 + 45 + 45 + 1);
        y.set(0, 0, 9);
        y.set(2, 0, -9);
        check.due("nor ahead of day 0", y.wettest(1, 1), 9 + 45 + 45 + 1 + 2);
    }

    private static void firstRule() {
        check.group("TEXT 0, at first THE RULE, is: costs 1 + number ; wets weather ; price weather * 3 ;");
        for (int v = 0; v < 10; v++) {
            WindowsGive x = paneOf(CRACKED, v, v, 1);
            x.set(0, 7, v);
            check.due("costs of number " + v, x.cost(7, spot(1, 7), 2), 1 + v);
            check.due("wets of weather " + v, x.water(1, 7), v);
            check.due("price of weather " + v, x.views(7, 1, 0), 3 * v);
            check.due("the rule", x.count(3), 0);
            rule(x, "50", "50", "50");
            check.due("another rule", x.cost(7, spot(1, 7), 2), 50);
            check.due("the first again", x.force(0), 1);
            check.due("costs of number " + v, x.cost(7, spot(1, 7), 2), 1 + v);
        }
    }

    private static void textsAtMost() {
        check.group("There are 6 TEXTS at most, TEXT 0 with them");
        WindowsGive x = paneOf(CRACKED, 0, 0, 1);
        check.due("at first", x.count(1), 1);
        for (int n = 1; n < 6; n++) {
            check.due("text " + n, textOf(x, price("1" + n)), n);
            check.due("texts", x.count(1), n + 1);
        }
        check.due("one more", textOf(x, price("16")), -4);
        check.due("texts", x.count(1), 6);
        for (int n = 5; n > 0; n--) {
            x.force(n);
            check.due("each is kept, " + n, x.views(0, 1, 0), 10 + n);
        }
        check.due("force of no text", x.force(6), -2);
        check.group("6 TEXTS, long ones");
        // Each 89 bytes: five of them, and what is asked of them, stay under 512 calls.
        WindowsGive y = paneOf(MIRROR, 0, 0, 0);
        for (int n = 1; n < 6; n++) {
            check.due("text " + n, textOf(y, price(n + "+1".repeat(33))), n);
        }
        for (int n = 1; n < 6; n++) {
            y.force(n);
            check.due("all of text " + n, y.views(0, 1, 0), n + 33);
        }
        check.group("a long TEXT behind a FAULT");
        WindowsGive z = paneOf(MIRROR, 0, 0, 0);
        check.due("a fault", textOf(z, "costs 1" + "+1".repeat(70) + "+"), -248);
        check.due("a text", textOf(z, price("1" + "+1".repeat(60))), 1);
        z.force(1);
        check.due("all of it", z.views(0, 1, 0), 61);
    }

    private static void emptyAfter() {
        check.group("THE TAPE, which is empty then (by a FAULT, too)");
        WindowsGive x = new WindowsGive();
        check.due("a text", textOf(x, price("1")), 1);
        check.due("empty", x.count(2), 0);
        check.due("a fault", textOf(x, "costs"), -105);
        check.due("empty", x.count(2), 0);
        check.due("nothing is left of it", x.text(), -100);
        check.due("a text again", textOf(x, price("1")), 2);
        check.due("a shorter one", textOf(x, "costs 1;wets"), -112);
        check.due("the first byte again", x.feed(32), 1);
        check.group("a FAULT is no TEXT");
        check.due("texts", x.count(1), 3);
        check.due("force", x.force(3), -2);
        check.due("the rule", x.count(3), 0);
    }
}
