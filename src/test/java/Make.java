/** What the tests make: panes' numbers, spots, rows, texts. They extend it, as without a package nothing is imported. */
class Make {
    static final int PANE = 0, LAGGING = 1, BRICKED = 2, CRACKED = 3, MIRROR = 4, FEAST = 5;
    static final int MAX = Integer.MAX_VALUE, MIN = Integer.MIN_VALUE;

    /** What of a pane: 100 times its number, and its shift and 9. */
    static int of(int number, int shift) {
        return 100 * number + shift + 9;
    }

    static int spot(int room, int day) {
        return 32 * room + day;
    }

    /** A house with one pane. */
    static WindowsGive paneOf(int kind, int number, int shift, int rooms) {
        WindowsGive x = new WindowsGive();
        x.pane(kind, of(number, shift), rooms);
        return x;
    }

    /** Weathers 0 1 2 .. 9 0 1 2 .. */
    static WindowsGive countedDays() {
        WindowsGive x = new WindowsGive();
        for (int d = 0; d < 32; d++) {
            x.set(0, d, d % 10);
        }
        return x;
    }

    static void fill(WindowsGive x, int sheet, int sort, int... values) {
        x.sheet(sheet, sort, values.length);
        for (int i = 0; i < values.length; i++) {
            x.cell(sheet, i, values[i]);
        }
    }

    static void feedAll(WindowsGive x, String text) {
        for (int i = 0; i < text.length(); i++) {
            x.feed(text.charAt(i));
        }
    }

    /** What text() answers to a tape of just this. */
    static int textOf(WindowsGive x, String text) {
        feedAll(x, text);
        return x.text();
    }

    /** A text whose price is this. */
    static String price(String e) {
        return "costs 1;wets 1;price " + e + ";";
    }

    /** Makes a text of these three the rule. */
    static void rule(WindowsGive x, String costs, String wets, String price) {
        x.force(textOf(x, "costs " + costs + ";wets " + wets + ";price " + price + ";"));
    }
}
