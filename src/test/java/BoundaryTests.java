/** A test for each sentence of the document that names an edge, other than refusals and texts; groups are its words. */
public final class BoundaryTests extends Make {
    private static final Checks check = new Checks();
    private static final int ALL_SHIFTS = (1 << 19) - 1;

    public static void main(String[] args) {
        calls();
        roomsAndDays();
        paneNumbers();
        onAndPasses();
        leads();
        spots();
        panesTo();
        costTo();
        earliest();
        comesBack();
        brick();
        alone();
        shows();
        seenShifts();
        seenKinds();
        seenFirstPlace();
        lookNext();
        film();
        water();
        wettest();
        views();
        viewsFirst();
        drawn();
        chance();
        image();
        sheets();
        cells();
        copies();
        weathers();
        taken();
        counts();
        check.end();
    }

    // ---- what it is

    private static void calls() {
        check.group("at most 512 calls");
        WindowsGive x = paneOf(CRACKED, 0, 0, 1);
        for (int call = 2; call <= 511; call++) {
            x.set(0, call % 32, call % 10);
        }
        check.due("the 512th call", x.told(31, 0), 511 % 10);
        for (int call = 513; call < 1500; call++) {
            x.feed(call % 256);
            x.text();
            x.pane(0, 9, 0);
            x.image();
            x.sheet(call % 4, 2, 40);
        }
        check.holds("later calls end, too", true);
    }

    // ---- ==== 1

    private static void roomsAndDays() {
        check.group("ROOMS 0 .. 5");
        WindowsGive x = new WindowsGive();
        check.due("the least room", x.pane(CRACKED, of(0, 0), 5), 0);
        check.due("the most room", x.pane(CRACKED, of(0, 0), 50), 1);
        check.due("into room 5", x.earliest(spot(0, 4), 5, 2), 4);
        check.due("into room 0", x.earliest(spot(5, 4), 0, 2), 4);
        check.due("the room becomes 5", x.set(3, 0, 5), 0);
        check.due("the room becomes 0", x.set(3, 0, 0), 5);
        check.due("INTO becomes 0", x.set(4, 0, 0), 5);
        check.due("INTO becomes 5", x.set(4, 0, 5), 0);
        check.group("DAYS 0 .. 31, each with a WEATHER (0 .. 9; 0 at first)");
        for (int d = 0; d < 32; d++) {
            check.due("at first, day " + d, x.told(d, 0), 0);
            check.due("becomes 9, day " + d, x.set(0, d, 9), 0);
            check.due("becomes 0, day " + d, x.set(0, d, 0), 9);
            check.due("is 0, day " + d, x.told(d, 0), 0);
        }
        check.group("in a ROOM and give INTO a ROOM (may be the same one)");
        for (int room = 0; room < 6; room++) {
            WindowsGive y = paneOf(PANE, 0, -3, 11 * room);
            check.due("room", y.told(0, 3), room);
            check.due("into", y.told(0, 4), room);
            check.due("by it, room " + room, y.panes(spot(room, 9), spot(room, 6), 0, 0), 1);
        }
    }

    private static void paneNumbers() {
        check.group("PANES (8 at most, numbered from 0)");
        WindowsGive x = new WindowsGive();
        for (int p = 0; p < 8; p++) {
            check.due("pane " + p, x.pane(CRACKED, of(p, p), p % 6), p);
            check.due("there are", x.count(0), p + 1);
        }
        check.due("one more", x.pane(PANE, of(0, 0), 0), -4);
        check.due("there are eight", x.count(0), 8);
        for (int p = 0; p < 8; p++) {
            check.due("number of " + p, x.told(p, 1), p);
            check.due("shift of " + p, x.told(p, 2), p);
        }
        check.group("a KIND: 0 .. 5");
        for (int kind = 0; kind < 6; kind++) {
            check.due("kind " + kind, paneOf(kind, 0, 0, 0).told(0, 5), kind);
        }
        check.group("a NUMBER (0 .. 9), a SHIFT (-9 .. 9)");
        for (int number = 0; number < 10; number++) {
            for (int shift = -9; shift < 10; shift++) {
                WindowsGive y = paneOf(PANE, number, shift, 0);
                check.due("number", y.told(0, 1), number);
                check.due("shift", y.told(0, 2), shift);
            }
        }
        check.group("NONE is -1; NO is -4611686018427387904");
        check.due("NONE", WindowsGive.NONE, -1);
        check.due("NO", WindowsGive.NO, Long.MIN_VALUE / 2);
    }

    private static void on(int kind, int number, int shift, int day, int due) {
        check.due("kind " + kind + ", number " + number + ", shift " + shift + ", on day " + day,
                paneOf(kind, number, shift, 0).gives(0, day, -1), due);
    }

    private static void passes(int kind, int number, int shift, int day, String due) {
        WindowsGive x = paneOf(kind, number, shift, 0);
        for (int sort = 0; sort < 3; sort++) {
            check.due("kind " + kind + ", number " + number + ", shift " + shift + ", day " + day + ", sort " + sort,
                    x.gives(0, day, sort), due.charAt(sort) - '0');
        }
    }

    private static void onAndPasses() {
        check.group("ON: also what is no DAY");
        on(PANE, 9, -9, 0, -9);
        on(PANE, 9, 9, 31, 40);
        on(LAGGING, 9, -9, 0, -18);
        on(LAGGING, 0, 9, 31, 40);
        on(BRICKED, 9, -9, 0, -9);
        on(BRICKED, 9, 9, 31, 40);
        on(CRACKED, 9, -9, 0, -18);
        on(CRACKED, 9, 9, 31, 31);
        on(MIRROR, 9, -9, 0, 0);
        on(MIRROR, 9, 9, 31, 31);
        on(FEAST, 9, -9, 0, -90);
        on(FEAST, 9, 9, 31, 121);
        on(FEAST, 0, 9, 31, 40);
        on(FEAST, 9, 0, 31, 31);
        check.group("Nothing passes to what is no DAY");
        String[] each = {"110", "110", "010", "111", "100", "111"};
        for (int kind : new int[] {PANE, LAGGING, BRICKED, CRACKED}) {
            int number = kind == LAGGING || kind == CRACKED ? 2 : 0;
            passes(kind, number, -5 + number, 5, each[kind]);
            passes(kind, number, -6 + number, 5, "000");
            passes(kind, number, 5 + number, 26, each[kind]);
            passes(kind, number, 5 + number, 27, "000");
        }
        passes(FEAST, 0, -5, 5, "111");
        passes(FEAST, 0, -6, 5, "000");
        passes(FEAST, 0, 5, 26, "111");
        passes(FEAST, 0, 5, 27, "000");
        passes(FEAST, 4, -2, 10, "111");
        passes(FEAST, 4, -2, 5, "000");
        passes(MIRROR, 9, 9, 31, "100");
        passes(MIRROR, 9, -9, 0, "100");
        check.group("FEAST: if d modulo (NUMBER and 1) is 0");
        for (int number = 0; number < 10; number++) {
            for (int day = 0; day < 32; day++) {
                passes(FEAST, number, 0, day, day % (number + 1) == 0 ? "111" : "000");
            }
        }
    }

    private static void leads() {
        check.group("LEADS: MIRROR: the ROOM it is in");
        for (int kind = 0; kind < 6; kind++) {
            check.due("kind " + kind, paneOf(kind, 0, 0, 25).told(0, 6), kind == MIRROR ? 2 : 5);
        }
        WindowsGive x = paneOf(MIRROR, 0, 0, 25);
        check.due("a look stays in the room", x.panes(spot(2, 0), spot(5, 0), 0, 0), -1);
        x.set(3, 0, 4);
        check.due("and goes with it", x.told(0, 6), 4);
        x.set(4, 0, 0);
        check.due("wherever it gives", x.told(0, 6), 4);
    }

    // ---- ==== 2, messages

    private static void spots() {
        check.group("A SPOT: 32 times a ROOM, and a DAY (0 .. 191)");
        WindowsGive x = paneOf(PANE, 0, 0, 5);
        x.pane(PANE, of(0, 0), 50);
        check.due("the first to the last", x.panes(0, 191, 0, 0), 1);
        check.due("the last to the first", x.panes(191, 0, 0, 0), -1);
        check.due("the last", x.panes(191, 31, 0, 0), 1);
        check.group("WAITING to the next DAY in the same ROOM (DAY 31: not)");
        WindowsGive y = new WindowsGive();
        for (int room = 0; room < 5; room++) {
            int last = spot(room, 31);
            check.due("panes", y.panes(last, last + 1, 0, 0), -1);
            check.due("waiting", y.panes(last, last + 1, 0, 1), -1);
            check.due("cost", y.cost(last, last + 1, 0), -1);
            check.due("earliest", y.earliest(last, room + 1, 0), -1);
            check.due("brick", y.brick(last, last + 1, 0, 0), 0);
            check.due("all days of the room", y.spots(spot(room, 0), 0), 32);
            check.due("the last day alone", y.spots(last, 0), 1);
            check.due("two days", y.spots(last - 1, 0), 2);
        }
        check.due("not back", y.panes(1, 0, 0, 0), -1);
        check.due("to the next", y.panes(0, 1, 0, 1), 1);
        check.due("to the last", y.panes(160, 191, 2, 1), 31);
        check.group("SPOTS to which it comes (its own, too)");
        check.due("no way on", y.spots(191, 2), 1);
        WindowsGive z = new WindowsGive();
        for (int room = 0; room < 5; room++) {
            z.pane(CRACKED, of(0, 0), 11 * room + 1);
        }
        check.due("all of them", z.spots(0, 2), 192);
        z.pane(CRACKED, of(0, -1), 55);
        check.due("all of the last room, by going back", z.spots(191, 2), 32);
    }

    private static void panesTo() {
        check.group("fewest PANES by which it comes there");
        // Room 0 to 2: by two panes at once, or by one after waiting for day 20.
        WindowsGive x = new WindowsGive();
        x.pane(PANE, of(0, 0), 1);
        x.pane(PANE, of(0, 0), 12);
        x.pane(FEAST, of(9, 1), 2);
        check.due("one, and long waiting", x.panes(spot(0, 11), spot(2, 31), 0, 0), 1);
        check.due("its waiting", x.panes(spot(0, 11), spot(2, 31), 0, 1), 10);
        check.due("two, a day too early for one", x.panes(spot(0, 11), spot(2, 29), 0, 0), 2);
        check.due("their waiting", x.panes(spot(0, 11), spot(2, 29), 0, 1), 18);
        check.group("of such ways fewest DAYS of WAITING");
        WindowsGive y = new WindowsGive();
        y.pane(PANE, of(0, 1), 1);
        y.pane(PANE, of(0, 5), 1);
        y.pane(PANE, of(0, 3), 1);
        check.due("by the longest step", y.panes(spot(0, 2), spot(1, 9), 0, 1), 2);
        check.due("by the one that fits", y.panes(spot(0, 2), spot(1, 5), 0, 1), 0);
        check.due("by the first", y.panes(spot(0, 2), spot(1, 4), 0, 1), 1);
        check.group("0, 0 to its own");
        WindowsGive mirror = paneOf(MIRROR, 0, 0, 0);
        for (int spot = 0; spot < 192; spot++) {
            check.due("panes, " + spot, mirror.panes(spot, spot, 0, 0), 0);
            check.due("waiting, " + spot, mirror.panes(spot, spot, 0, 1), 0);
        }
        check.group("NONE: it doesn't come there");
        check.due("panes", y.panes(spot(1, 9), spot(0, 9), 0, 0), -1);
        check.due("waiting", y.panes(spot(1, 9), spot(0, 9), 0, 1), -1);
        check.due("a thing", y.panes(spot(0, 2), spot(1, 9), 2, 0), -1);
        check.due("too late", y.panes(spot(0, 31), spot(1, 31), 0, 0), -1);
        check.due("just in time", y.panes(spot(0, 30), spot(1, 31), 0, 0), 1);
        check.group("many PANES");
        WindowsGive back = paneOf(PANE, 0, -1, 0);
        check.due("thirty-one", back.panes(31, 0, 1, 0), 31);
        check.due("without waiting", back.panes(31, 0, 1, 1), 0);
    }

    private static void costTo() {
        check.group("COST TO: of all ways the least");
        WindowsGive x = new WindowsGive();
        x.pane(PANE, of(9, 0), 1);
        x.pane(PANE, of(2, 0), 2);
        x.pane(PANE, of(3, 0), 21);
        check.due("two for seven ahead of one for ten", x.cost(0, spot(1, 0), 0), 7);
        x.set(1, 2, 9);
        check.due("one for ten", x.cost(0, spot(1, 0), 0), 10);
        check.group("costs (on the DAY one is passed)");
        WindowsGive y = paneOf(PANE, 0, 3, 1);
        rule(y, "40 - day", "0", "0");
        check.due("on the day it leaves", y.cost(0, spot(1, 3), 0), 40);
        check.due("all days are alike with waiting", y.cost(0, spot(1, 31), 0), 28 + 12);
        check.group("1 for each DAY of WAITING");
        check.due("waits", y.cost(0, 31, 0), 31);
        check.due("not at all", y.cost(31, 31, 0), 0);
        check.due("waits behind the pane, too", y.cost(spot(0, 28), spot(1, 31), 0), 12);
        check.group("COST TO: NONE");
        check.due("nothing leads there", y.cost(spot(1, 0), 0, 0), -1);
        check.due("back", y.cost(1, 0, 0), -1);
        check.group("COST TO at its most");
        WindowsGive z = paneOf(PANE, 0, -1, 11);
        rule(z, "9999", "0", "0");
        check.due("thirty-one of 99", z.cost(spot(1, 31), spot(1, 0), 0), 31 * 99);
    }

    private static void earliest() {
        check.group("EARLIEST: the least DAY in a ROOM to which it comes");
        WindowsGive x = new WindowsGive();
        check.due("its own", x.earliest(spot(3, 31), 3, 2), 31);
        check.due("its own", x.earliest(spot(3, 0), 3, 2), 0);
        check.group("EARLIEST: NONE");
        check.due("no pane", x.earliest(spot(3, 0), 2, 0), -1);
        x.pane(FEAST, of(9, -3), 35);
        check.due("a feast to no day", x.earliest(spot(3, 1), 5, 2), 0);
        check.due("no feast is left", x.earliest(spot(3, 31), 5, 2), -1);
        check.due("the last feast", x.earliest(spot(3, 30), 5, 2), 0);
        check.group("EARLIEST: by no pane of a ROOM to which it does not come");
        for (int kind : new int[] {PANE, LAGGING, FEAST}) {
            WindowsGive far = paneOf(kind, kind == FEAST ? 0 : 1, -1, 12);
            check.due("earliest, kind " + kind, far.earliest(0, 2, 0), -1);
            check.due("spots, kind " + kind, far.spots(0, 0), 32);
            check.due("brick, kind " + kind, far.brick(0, spot(2, 31), 0, 0), 0);
            check.due("panes, kind " + kind, far.panes(0, spot(2, 31), 0, 0), -1);
        }
        check.group("EARLIEST: day 31, day 0");
        WindowsGive y = paneOf(PANE, 0, 9, 1);
        check.due("day 31", y.earliest(spot(0, 22), 1, 0), 31);
        check.due("no day", y.earliest(spot(0, 23), 1, 0), -1);
        y.set(2, 0, -9);
        check.due("day 0", y.earliest(spot(0, 9), 1, 0), 0);
        check.due("waits for it", y.earliest(spot(0, 8), 1, 0), 0);
    }

    private static void comesBack() {
        check.group("COMES BACK: fewest PANES, one at least");
        WindowsGive x = new WindowsGive();
        for (int spot = 0; spot < 192; spot += 31) {
            check.due("without panes, " + spot, x.loop(spot, 0), -1);
        }
        x.pane(MIRROR, of(0, 0), 25);
        for (int day = 0; day < 32; day++) {
            check.due("a mirror, day " + day, x.loop(spot(2, day), 0), 1);
        }
        check.due("a mirror elsewhere", x.loop(spot(5, 0), 0), -1);
        check.group("COMES BACK: a pane onto the same day");
        WindowsGive same = paneOf(CRACKED, 0, 0, 0);
        check.due("day 0", same.loop(0, 2), 1);
        check.due("day 31", same.loop(31, 2), 1);
        check.group("COMES BACK: and waits");
        WindowsGive back = paneOf(PANE, 0, -1, 0);
        check.due("day 0: waits first", back.loop(0, 0), 1);
        check.due("day 1", back.loop(1, 0), 1);
        check.due("day 31: waits last", back.loop(31, 0), 1);
        back.set(2, 0, -9);
        check.due("day 31, from far", back.loop(31, 0), 1);
        check.due("day 0, from far", back.loop(0, 0), 1);
        check.group("COMES BACK: by waiting till any day");
        WindowsGive feasts = paneOf(FEAST, 9, -1, 33);
        for (int day = 0; day < 32; day++) {
            // Those of days 10, 20 and 30 give ten days back.
            check.due("day " + day, feasts.loop(spot(3, day), 2), day < 31 ? 1 : -1);
        }
        check.group("COMES BACK: not from the last DAY of the ROOM ahead");
        for (int room = 1; room < 6; room++) {
            WindowsGive ahead = paneOf(PANE, 0, 9, 10 * room + room - 1);
            check.due("room " + room, ahead.loop(spot(room, 0), 0), -1);
        }
        check.group("COMES BACK: by no pane to which it does not come");
        WindowsGive away = paneOf(PANE, 0, 0, 10);
        check.due("a pane leads there", away.loop(0, 0), -1);
        check.due("a pane leads there, day 31", away.loop(31, 1), -1);
        check.group("COMES BACK: NONE");
        back.set(2, 0, 1);
        check.due("onward alone", back.loop(0, 0), -1);
        check.due("no thing", same.loop(32, 2), -1);
        check.group("COMES BACK: through many rooms");
        WindowsGive ring = new WindowsGive();
        for (int room = 0; room < 6; room++) {
            ring.pane(PANE, of(0, room == 5 ? -5 : 1), 10 * room + (room + 1) % 6);
        }
        check.due("six", ring.loop(spot(0, 0), 1), 6);
        check.due("six, to the last day", ring.loop(spot(0, 26), 1), 6);
        check.due("behind it", ring.loop(spot(0, 27), 1), -1);
        check.due("behind it, but the first have been passed", ring.loop(spot(5, 31), 1), 6);
    }

    private static void brick() {
        check.group("BRICK: of all sets of PANES (none, too)");
        WindowsGive x = new WindowsGive();
        check.due("no panes, no way", x.brick(0, 32, 0, 0), 0);
        x.pane(PANE, of(0, 0), 10);
        check.due("a pane, no way", x.brick(0, 32, 0, 0), 0);
        check.group("BRICK: NONE");
        check.due("its own", x.brick(0, 0, 0, 0), -1);
        check.due("the next day", x.brick(0, 1, 0, 0), -1);
        check.due("the last day", x.brick(0, 31, 2, 0), -1);
        check.due("the day ahead", x.brick(1, 0, 0, 0), 0);
        check.group("BRICK: that of fewest; of like ones the least as bits");
        WindowsGive y = new WindowsGive();
        y.pane(PANE, of(0, 0), 1);
        y.pane(PANE, of(0, 0), 1);
        y.pane(PANE, of(0, 0), 12);
        check.due("fewest ahead of least", y.brick(0, spot(2, 0), 0, 0), 4);
        y.pane(PANE, of(0, 0), 12);
        check.due("least of two pairs", y.brick(0, spot(2, 0), 0, 0), 3);
        y.pane(PANE, of(0, 0), 2);
        check.due("three", y.brick(0, spot(2, 0), 0, 0), 3 + 16);
        check.group("BRICK: all eight");
        WindowsGive z = new WindowsGive();
        for (int p = 0; p < 8; p++) {
            z.pane(CRACKED, of(0, p - 7), 1);
        }
        check.due("all", z.brick(7, spot(1, 31), 2, 0), 255);
        check.due("those that come so early", z.brick(7, spot(1, 3), 2, 0), 15);
        check.due("the first", z.brick(7, spot(1, 0), 2, 0), 1);
        check.due("none", z.brick(8, spot(1, 0), 2, 0), 0);
    }

    private static void alone() {
        check.group("ALONE: PANES (bits) without each of which alone nothing of it came there");
        WindowsGive x = new WindowsGive();
        check.due("no panes, no way", x.brick(0, 32, 0, 1), 0);
        for (int p = 0; p < 8; p++) {
            x.pane(PANE, of(0, 0), p < 5 ? 11 * p + 1 : 0);
        }
        check.due("each of the way", x.brick(0, spot(5, 31), 0, 1), 31);
        check.due("its own", x.brick(0, 0, 0, 1), 0);
        check.due("by waiting", x.brick(0, 31, 0, 1), 0);
        check.due("no way: all", x.brick(spot(1, 0), 0, 0, 1), 255);
        check.due("no thing: all", x.brick(0, spot(5, 31), 2, 1), 255);
        check.due("the first one", x.brick(0, spot(1, 0), 0, 1), 1);
        x.set(3, 5, 3);
        x.set(4, 5, 4);
        check.due("not where there are two", x.brick(0, spot(5, 31), 0, 1), 31 - 8);
    }

    // ---- ==== 2, whose day it is

    private static void shows() {
        check.group("A PANE SHOWS: else NONE");
        WindowsGive x = countedDays();
        x.pane(PANE, of(0, 1), 0);
        x.pane(BRICKED, of(0, 1), 0);
        x.pane(FEAST, of(1, 1), 0);
        fill(x, 0, 0, 5, 6, -1);
        check.due("days 5, 6 and 7: all", x.seen(0, 0, 4, 0), 2);
        fill(x, 0, 0, -1, -1);
        check.due("no look passes", x.seen(0, 1, 4, 0), -1);
        fill(x, 0, 0, 6, -1, 8, -1);
        check.due("each second day", x.seen(0, 2, 4, 0), -1);
        check.group("A PANE SHOWS: (and that is a DAY)");
        fill(x, 0, 0, 1, -1, -1, -1);
        check.due("days 31 and 32", x.seen(0, 0, 30, 0), -1);
        x.set(2, 0, -2);
        fill(x, 0, 0, -1, -1, 0, 1);
        check.due("days -2 .. 1", x.seen(0, 0, 0, 0), -1);
        check.group("A PANE SHOWS: behind DAY 31 NONE");
        fill(x, 0, 0, 9, -1, -1, -1, -1, -1, -1, -1, -1, -1);
        check.due("from day 31 on", x.seen(0, 0, 31, 0), -1);
        fill(x, 0, 0, 9, 0);
        check.due("not what lies two days ahead of day 32", x.seen(0, 0, 31, 0), 1);
        x.pane(MIRROR, of(0, 0), 0);
        fill(x, 0, 0, 1, -1);
        check.due("a mirror", x.seen(0, 3, 31, 0), -1);
    }

    private static void seenShifts() {
        check.group("SHIFTS (bits 0 .. 18, of -9 .. 9)");
        for (int shift = -9; shift < 10; shift++) {
            WindowsGive x = paneOf(PANE, 0, 0, 0);
            x.set(0, 15 + shift, 7);
            fill(x, 0, 0, 7);
            check.due("shift " + shift, x.seen(0, 0, 15, 1), 1 << shift + 9);
        }
        WindowsGive y = paneOf(PANE, 0, 0, 0);
        fill(y, 0, 0, -1);
        check.due("none is shown by those ahead of day 0", y.seen(0, 0, 0, 1), 511);
        check.due("none is shown by those behind day 31", y.seen(0, 0, 31, 1), 511 << 10);
        check.due("none by none", y.seen(0, 0, 15, 1), 0);
        check.group("SEEN: by which, were they its own");
        WindowsGive z = paneOf(LAGGING, 4, 0, 0);
        z.set(0, 15, 7);
        fill(z, 0, 0, 7);
        check.due("lagging by four", z.seen(0, 0, 10, 1), 1 << 18);
        check.due("it keeps its own", z.told(0, 2), 0);
        check.group("SEEN: nothing told");
        z.sheet(0, 2, 0);
        check.due("all shifts", z.seen(0, 0, 0, 1), ALL_SHIFTS);
        check.due("all kinds", z.seen(0, 0, 31, 2), 63);
    }

    private static void seenKinds() {
        check.group("KINDS (bits 0 .. 5)");
        WindowsGive x = countedDays();
        x.pane(BRICKED, of(1, 3), 0);
        int[] shown = {-1, 9, 8, -1, 8, 6, 2};
        int[] due = {1 << BRICKED, 1 << PANE, 1 << LAGGING | 1 << CRACKED, 1 << BRICKED, 1 << LAGGING | 1 << CRACKED,
            1 << MIRROR, 1 << FEAST};
        for (int i = 0; i < shown.length; i++) {
            fill(x, 0, 0, shown[i]);
            check.due("shown " + shown[i], x.seen(0, 0, 6, 2), due[i]);
        }
        check.due("it keeps its own", x.told(0, 5), BRICKED);
        fill(x, 0, 0, -1);
        check.due("no feast on day 7, either", x.seen(0, 0, 7, 2), 1 << BRICKED | 1 << FEAST);
        check.due("day 31: a mirror alone shows", x.seen(0, 0, 31, 2), 63 - (1 << MIRROR));
    }

    private static void seenFirstPlace() {
        check.group("the first place (from 0) at which it is otherwise (what 0; NONE)");
        WindowsGive x = paneOf(PANE, 0, 0, 0);
        x.sheet(0, 1, 10);
        check.due("nowhere", x.seen(0, 0, 0, 0), -1);
        for (int i = 9; i >= 0; i--) {
            x.cell(0, i, 3);
            check.due("at " + i, x.seen(0, 0, 0, 0), i);
        }
        check.group("SEEN: DAY by DAY (10 at most)");
        WindowsGive y = countedDays();
        y.pane(PANE, of(0, 0), 0);
        fill(y, 0, 0, 0, 1, 2, 3, 4, 5, 6, 7, 8, 9);
        check.due("ten", y.seen(0, 0, 10, 0), -1);
        check.due("ten, by shifts", y.seen(0, 0, 11, 1), 1 << 8 | 1 << 18);
        check.due("ten, by shifts, just one", y.seen(0, 0, 2, 1), 1 << 7 | 1 << 17);
        check.due("ten, to day 31", y.seen(0, 0, 22, 1), 1 << 7);
        check.due("ten, behind day 31", y.seen(0, 0, 23, 1), 0);
    }

    private static void lookNext() {
        WindowsGive x = paneOf(PANE, 0, 0, 0);
        for (int d = 0; d < 32; d++) {
            x.set(0, d, 5);
        }
        x.sheet(0, 0, 0);
        check.group("LOOK NEXT: (NONE is one, too)");
        check.due("5 and none", x.lookNext(0, 0, 0, 1), 2);
        check.group("LOOK NEXT: of like ones the first");
        check.due("the first day", x.lookNext(0, 0, 0, 0), 0);
        check.due("wherever it was seen", x.lookNext(0, 0, 31, 0), 0);
        check.group("LOOK NEXT: most unlike ones");
        x.set(0, 22, 3);
        check.due("two unlike ones, and none", x.lookNext(0, 0, 0, 1), 3);
        check.due("the first day that shows day 22 and day 32", x.lookNext(0, 0, 0, 0), 23);
        check.group("LOOK NEXT: by all SHIFTS that fit so; the last DAY");
        x.set(0, 6, 7);
        x.set(0, 7, 7);
        x.set(0, 15, 7);
        x.set(0, 31, 2);
        fill(x, 0, 0, 7);
        check.due("by shifts -9, -8 and 0", x.seen(0, 0, 15, 1), 1 << 9 | 3);
        check.due("days 22, 23 and 31", x.lookNext(0, 0, 15, 1), 3);
        check.due("are shown on day 31 alone", x.lookNext(0, 0, 15, 0), 31);
        x.set(0, 31, 5);
        check.due("but two", x.lookNext(0, 0, 15, 1), 2);
        check.due("by the first day", x.lookNext(0, 0, 15, 0), 0);
        check.group("LOOK NEXT: ten WEATHERS and NONE");
        for (int d = 22; d < 32; d++) {
            x.set(0, d, d - 22);
        }
        x.sheet(0, 0, 0);
        check.due("eleven", x.lookNext(0, 0, 0, 1), 11);
        check.due("the first", x.lookNext(0, 0, 0, 0), 23);
        check.group("LOOK NEXT: 0: none fits");
        fill(x, 0, 1, 10);
        check.due("how many", x.lookNext(0, 0, 0, 1), 0);
        check.due("all days are like: the first", x.lookNext(0, 0, 0, 0), 0);
        check.group("LOOK NEXT: one fits");
        fill(x, 0, 1, 9);
        check.due("how many", x.lookNext(0, 0, 22, 1), 1);
        check.due("the first", x.lookNext(0, 0, 22, 0), 0);
        check.group("LOOK NEXT: by a KIND without a look");
        x.pane(BRICKED, of(0, 0), 0);
        fill(x, 0, 0, -1);
        check.due("none alone", x.lookNext(0, 1, 0, 1), 1);
    }

    private static void film() {
        check.group("on n DAYS (0 .. 10) from one on (bytes): n");
        WindowsGive x = countedDays();
        x.pane(PANE, of(0, 2), 0);
        for (int n = 0; n < 11; n++) {
            check.due("film of " + n, x.film(3, 0, 25, n), n);
            check.due("so many items", n == 0 ? 1 : x.cell(3, n - 1, -1), 1);
            check.due("no more", x.cell(3, n, 0), -12);
        }
        x.film(3, 0, 25, 10);
        fill(x, 0, 0, 7, 8, 9, 0, 1, -1, -1, -1, -1, -1);
        check.due("bytes", x.copy(3, 0, 1, 0, 0), -11);
        check.due("bytes", x.copy(3, 0, 0, 0, 10), 10);
        check.due("with their sign", x.seen(0, 0, 25, 0), -1);
        check.due("as a thing of bytes", x.weathers(3, 0, 0, 0), 0);
        check.group("A SHEET truly becomes what a PANE SHOWS");
        x.set(2, 0, 3);
        check.due("it told the old days", x.seen(3, 0, 25, 0), 0);
        x.film(3, 0, 25, 10);
        check.due("it tells the new ones", x.seen(3, 0, 25, 0), -1);
        x.sheet(2, -1, 0);
        check.due("a missing sheet", x.film(2, 0, 0, 0), 0);
        check.due("is there then", x.seen(2, 0, 0, 0), -1);
    }

    // ---- ==== 2, water, views

    private static void water() {
        check.group("WATER: these PASS a thing and give ON this DAY");
        WindowsGive x = paneOf(CRACKED, 2, 5, 1);
        rule(x, "1", "1 + day", "0");
        for (int d = 0; d < 32; d++) {
            check.due("day " + d, x.water(1, d), d < 3 ? 0 : d - 2);
        }
        x.set(2, 0, -1);
        for (int d = 0; d < 32; d++) {
            check.due("back, day " + d, x.water(1, d), d > 28 ? 0 : d + 4);
        }
        check.group("WATER: of all PANES that LEAD there");
        check.due("not where it is", x.water(0, 9), 0);
        x.pane(CRACKED, of(0, 0), 11);
        check.due("and of one in the room itself", x.water(1, 9), 13 + 10);
        x.pane(PANE, of(0, 0), 1);
        x.pane(LAGGING, of(0, 0), 1);
        x.pane(BRICKED, of(0, 0), 1);
        x.pane(MIRROR, of(0, 0), 11);
        check.due("no thing passes these", x.water(1, 9), 13 + 10);
        check.group("WATER: eight at the bound");
        WindowsGive y = new WindowsGive();
        for (int p = 0; p < 8; p++) {
            y.pane(CRACKED, of(0, 0), 2);
        }
        rule(y, "1", "100", "0");
        check.due("one day", y.water(2, 31), 8 * 99);
        check.due("all days", y.wettest(2, 1), 32 * 8 * 99);
        check.group("WATER: none");
        check.due("no panes", new WindowsGive().water(5, 31), 0);
    }

    private static void wettest() {
        check.group("WETTEST: of like ones the first");
        WindowsGive x = paneOf(CRACKED, 0, 0, 1);
        check.due("all dry", x.wettest(1, 0), 0);
        check.due("all dry, together", x.wettest(1, 1), 0);
        x.set(0, 31, 4);
        check.due("the last day", x.wettest(1, 0), 31);
        x.set(0, 30, 4);
        check.due("the first of two", x.wettest(1, 0), 30);
        x.set(0, 0, 4);
        check.due("the first of three", x.wettest(1, 0), 0);
        x.set(0, 30, 5);
        check.due("the most", x.wettest(1, 0), 30);
        check.due("together", x.wettest(1, 1), 13);
        check.due("another room", x.wettest(0, 0), 0);
        check.group("WETTEST: each DAY may be it");
        for (int d = 0; d < 32; d++) {
            WindowsGive y = paneOf(CRACKED, 0, 0, 5);
            y.set(0, d, 1);
            check.due("day " + d, y.wettest(5, 0), d);
        }
    }

    private static void views() {
        check.group("VIEWS: n persons (0 .. 4)");
        WindowsGive x = countedDays();
        check.due("no person, no pane", x.views(0, 0, 0), 0);
        check.due("no person, no pane: the panes", x.views(0, 0, 1), 0);
        check.group("VIEWS: NONE: there are too few");
        for (int n = 1; n < 5; n++) {
            check.due("price of " + n, x.views(3, n, 0), -1);
            check.due("panes of " + n, x.views(3, n, 1), -1);
            x.pane(MIRROR, of(0, 0), 0);
            check.due("price of " + n + ", enough", x.views(3, n, 0), 9 * n);
            check.due("panes of " + n + ", enough", x.views(3, n, 1), 1234 / (int) Math.pow(10, 4 - n));
        }
        check.group("VIEWS: another PANE that PASSES a look on a DAY");
        WindowsGive y = countedDays();
        y.pane(PANE, of(0, 1), 0);
        y.pane(BRICKED, of(0, 1), 0);
        y.pane(FEAST, of(2, 1), 0);
        check.due("on a feast", y.views(3, 2, 1), 13);
        check.due("on no feast", y.views(4, 2, 1), -1);
        check.due("but one", y.views(4, 1, 1), 1);
        check.due("behind day 31", y.views(31, 1, 1), -1);
        check.due("on day 31", y.views(30, 1, 1), 1);
        check.group("VIEWS: price (of that DAY)");
        rule(y, "1", "0", "10 * day");
        check.due("of the day", y.views(4, 1, 0), 40);
        check.due("at the bound", y.views(30, 1, 0), 99);
        check.due("of day 0", y.views(0, 2, 0), 0);
        check.due("of day 0, the panes", y.views(0, 2, 1), 13);
    }

    private static void viewsFirst() {
        check.group("VIEWS: of like ones the first (by the first person's PANE, then the second's, ..)");
        WindowsGive x = new WindowsGive();
        for (int p = 0; p < 8; p++) {
            x.pane(MIRROR, of(p, 0), 0);
        }
        check.due("all like", x.views(9, 4, 1), 1234);
        rule(x, "1", "0", "window < 4");
        check.due("the four", x.views(9, 4, 1), 1234);
        rule(x, "1", "0", "3 < window");
        check.due("the last four", x.views(9, 4, 1), 5678);
        check.due("their price", x.views(9, 4, 0), 4);
        check.due("three of them", x.views(9, 3, 1), 567);
        rule(x, "1", "0", "window = 7 or window = 2");
        check.due("one of two like ones", x.views(9, 1, 1), 3);
        check.due("both", x.views(9, 2, 1), 38);
        check.due("both, and the first", x.views(9, 3, 1), 138);
        check.due("both, and the first two", x.views(9, 4, 1), 1238);
        rule(x, "1", "0", "window");
        check.due("the dearest", x.views(9, 4, 1), 5678);
        check.due("and their price", x.views(9, 4, 0), 4 + 5 + 6 + 7);
        check.due("the one", x.views(9, 1, 1), 8);
        rule(x, "1", "0", "99");
        check.due("at the bound", x.views(9, 4, 0), 4 * 99);
    }

    /** All weathers that a seed draws, together: a crack onto the same day brings them in. */
    private static int drawnTogether(int seed) {
        long z = seed;
        int together = 0;
        for (int d = 0; d < 32; d++) {
            z = (z * 1103515245L + 12345L) & 0xffffffffL;
            together += (int) ((z >> 9) % 10);
        }
        return together;
    }

    private static void drawn() {
        check.group("DRAWN: (an int; SEED at first), (z >>> 9) % 10");
        WindowsGive x = paneOf(CRACKED, 0, 0, 1);
        for (int seed : new int[] {0, 1, -1, 2, -2, 12345, 1 << 31, MAX, MIN, MIN + 1, -1103515245}) {
            check.due("seed " + seed, x.drawn(1, seed), drawnTogether(seed));
        }
        WindowsGive first = paneOf(FEAST, 9, 0, 1);
        rule(first, "1", "weather * (day = 0)", "0");
        // 12345 >>> 9 is 24.
        check.due("the first day of seed 0", first.drawn(1, 0), 4);
        check.due("the first day of seed -1", first.drawn(1, -1), (-1103502900 >>> 9) % 10);
        check.group("DRAWN: WEATHERS, in thought");
        x.set(0, 7, 8);
        x.drawn(1, 99);
        check.due("a weather stays", x.told(7, 0), 8);
        check.due("the others stay", x.count(4), 8);
        check.due("water stays", x.wettest(1, 1), 8);
        check.group("DRAWN: a room without water");
        check.due("none", x.drawn(0, 5), 0);
    }

    private static void chanceIs(WindowsGive x, int seed, int n, int most, int above, int below) {
        String call = "chance(1, " + seed + ", " + n + ", " + most + ")";
        check.due(call + " above", x.chance(1, seed, n, most, 0), above);
        check.due(call + " below", x.chance(1, seed, n, most, 1), below);
    }

    private static void chance() {
        check.group("IN n seeds (1 .. 20): that is no more than most (0 .. 99999)");
        WindowsGive x = paneOf(CRACKED, 0, 0, 1);
        int just = drawnTogether(77);
        chanceIs(x, 77, 1, just, 1, 1);
        chanceIs(x, 77, 1, just - 1, 0, 1);
        chanceIs(x, 77, 1, 99999, 1, 1);
        chanceIs(x, 77, 20, 99999, 1, 1);
        chanceIs(x, 77, 20, 0, 0, 1);
        check.due("a dry room", x.chance(0, 77, 20, 0, 0), 1);
        check.group("IN n seeds: SEED and each 1 more (an int)");
        int[] top = new int[20];
        int least = 0;
        for (int i = 0; i < 20; i++) {
            top[i] = drawnTogether(MAX - 9 + i);
            least = top[i] < top[least] ? i : least;
        }
        check.holds("the least is one alone, behind the wrap or ahead of it",
                java.util.Arrays.stream(top).sorted().skip(1).findFirst().getAsInt() > top[least]);
        chanceIs(x, MAX - 9, 20, top[least], 1, 20);
        chanceIs(x, MAX - 9, 20, top[least] - 1, 0, 1);
        chanceIs(x, MAX, 2, Math.max(drawnTogether(MAX), drawnTogether(MIN)), 1, 1);
        chanceIs(x, MAX, 2, Math.min(drawnTogether(MAX), drawnTogether(MIN)), 1, 2);
        check.group("in lowest terms");
        for (int n = 1; n <= 20; n++) {
            int[] all = new int[n];
            for (int i = 0; i < n; i++) {
                all[i] = drawnTogether(500 + i);
            }
            java.util.Arrays.sort(all);
            int most = all[(n - 1) / 2];
            int in = (int) java.util.Arrays.stream(all).filter(w -> w <= most).count();
            int by = n;
            while (in % by != 0 || n % by != 0) {
                by--;
            }
            chanceIs(x, 500, n, most, in / by, n / by);
        }
    }

    private static void image() {
        check.group("AN IMAGE keeps WEATHERS, NUMBERS, SHIFTS, ROOMS of all PANES, THE RULE");
        WindowsGive x = new WindowsGive();
        for (int p = 0; p < 8; p++) {
            x.pane(p % 6, of(p, p), p % 6);
        }
        x.set(0, 0, 1);
        x.set(0, 31, 2);
        textOf(x, price("1"));
        check.due("eight", x.image(), 8);
        for (int p = 0; p < 8; p++) {
            for (int what = 1; what < 5; what++) {
                x.set(what, p, 5 - p % 6 / 2);
            }
        }
        x.set(0, 0, 9);
        x.set(0, 15, 9);
        x.set(0, 31, 9);
        x.force(1);
        check.due("back", x.back(), 8);
        for (int p = 0; p < 8; p++) {
            int[] due = {0, p, p, 0, p % 6, p % 6};
            for (int what = 1; what < 6; what++) {
                check.due("told(" + p + ", " + what + ")", x.told(p, what), due[what]);
            }
        }
        check.due("weathers", x.count(4), 3);
        check.due("the last day", x.told(31, 0), 2);
        check.due("the rule", x.count(3), 0);
        check.group("PANES that came since go");
        WindowsGive y = new WindowsGive();
        check.due("an image of none", y.image(), 0);
        for (int p = 0; p < 8; p++) {
            y.pane(PANE, of(0, 0), 0);
        }
        check.due("full", y.pane(PANE, of(0, 0), 0), -4);
        check.due("back to none", y.back(), 0);
        check.due("none", y.count(0), 0);
        check.due("no way", y.loop(0, 0), -1);
        check.due("the first again", y.pane(MIRROR, of(1, 1), 22), 0);
        check.due("of its own", y.told(0, 5), MIRROR);
        check.group("THE IMAGE stays till another");
        check.due("back again", y.back(), 0);
        y.pane(PANE, of(3, 3), 33);
        check.due("another", y.image(), 1);
        y.set(1, 0, 9);
        check.due("back to that", y.back(), 1);
        check.due("its number", y.told(0, 1), 3);
        check.due("an image changes nothing", y.image(), 1);
        check.due("and is no change", y.back(), 1);
        check.due("its number", y.told(0, 1), 3);
        check.group("TEXTS, THE TAPE, SHEETS are not kept");
        y.feed(65);
        textOf(y, "");
        textOf(y, price("2"));
        y.feed(66);
        y.sheet(0, 0, 4);
        y.back();
        check.due("texts", y.count(1), 2);
        check.due("the tape", y.count(2), 1);
        check.due("a sheet", y.cell(0, 3, 0), 1);
        check.due("the text can be the rule", y.force(1), 0);
    }

    // ---- ==== 3, the host

    private static void sheets() {
        check.group("SHEETS 0 .. 3 are missing at first");
        WindowsGive x = paneOf(PANE, 0, 0, 0);
        for (int s = 0; s < 4; s++) {
            check.due("sheet " + s, x.cell(s, 0, 0), -11);
        }
        check.group("a row of n of a sort, all 0");
        for (int sort = 0; sort < 3; sort++) {
            for (int n : new int[] {0, 1, 10, 39, 40}) {
                check.due("n " + n + " of sort " + sort, x.sheet(sort, sort, n), 1);
                check.due("the last", n == 0 ? 1 : x.cell(sort, n - 1, 0), 1);
                check.due("no more", x.cell(sort, n, 0), -12);
            }
            fill(x, sort, sort, 1, 2, 3);
            x.sheet(sort, sort, 3);
            check.due("all 0 again", x.seen(sort, 0, 0, 0), -1);
            fill(x, sort, sort, 1, 2, 3);
            x.sheet(sort, -1, 0);
            x.sheet(sort, sort, 3);
            check.due("all 0 again, once missing", x.seen(sort, 0, 0, 0), -1);
        }
        check.group("it becomes of another sort");
        x.sheet(0, 1, 2);
        check.due("shorts", x.weathers(0, 1, 0, 0), 0);
        x.sheet(0, 2, 2);
        check.due("ints", x.weathers(0, 2, 0, 0), 0);
        check.due("no shorts", x.weathers(0, 1, 0, 0), -13);
        check.group("or missing (sort -1)");
        x.sheet(0, -1, 2);
        check.due("missing", x.weathers(0, 2, 0, 0), -11);
    }

    /** Whether an item becomes what is a weather of day 0, as a sheet is taken for weathers. */
    private static void becomes(int sort, int v, int due) {
        WindowsGive x = new WindowsGive();
        fill(x, 0, sort, 0, v);
        boolean is = due >= 0 && due <= 9;
        check.due(v + " of sort " + sort, x.weathers(0, sort, 0, 1), is ? 1 : 0);
        check.due(v + " of sort " + sort + " is", x.told(0, 0), is ? due : 0);
    }

    private static void cells() {
        check.group("of bytes its lowest 8 bits");
        for (int v : new int[] {7, 256 + 7, -256 + 7, 65536 + 7, MIN + 7, 0x7fffff07}) {
            becomes(0, v, 7);
        }
        becomes(0, 128, -128);
        becomes(0, MAX, -1);
        check.group("of shorts its lowest 16 bits");
        for (int v : new int[] {7, 65536 + 7, -65536 + 7, MIN + 7, 0x7fff0007}) {
            becomes(1, v, 7);
        }
        becomes(1, 256 + 7, 263);
        becomes(1, MAX, -1);
        check.group("of ints all");
        becomes(2, 7, 7);
        becomes(2, 256 + 7, 263);
        becomes(2, 65536 + 7, 65543);
        becomes(2, MIN + 7, MIN + 7);
        check.group("with their sign");
        WindowsGive x = paneOf(BRICKED, 0, 0, 0);
        int[] none = {-1, 255, 65535, MAX, MIN};
        String[] due = {"11101", "10110", "10000"};
        for (int sort = 0; sort < 3; sort++) {
            for (int i = 0; i < none.length; i++) {
                fill(x, 0, sort, none[i]);
                boolean is = sort == 0 ? (byte) none[i] == -1 : sort == 1 ? (short) none[i] == -1 : none[i] == -1;
                check.due(none[i] + " is -1 in sort " + sort, x.seen(0, 0, 0, 0), is ? -1 : 0);
            }
        }
        check.group("the first and the last item alone");
        WindowsGive y = countedDays();
        y.pane(PANE, of(0, 0), 0);
        fill(y, 0, 2, 0, 9, 9, 3);
        y.cell(0, 1, 1);
        y.cell(0, 2, 2);
        check.due("as they are", y.seen(0, 0, 0, 0), -1);
    }

    private static void copied(int i, int j, int n, int... due) {
        WindowsGive x = countedDays();
        x.pane(PANE, of(0, 0), 0);
        fill(x, 0, 1, 0, 1, 2, 3, 4);
        fill(x, 1, 1, due);
        check.due("copy(0, " + i + ", 0, " + j + ", " + n + ")", x.copy(0, i, 0, j, n), n);
        // Item by item, ahead of the day's own weather: a day's weather is its number.
        for (int k = 0; k < due.length; k++) {
            x.sheet(2, 1, 1);
            x.copy(0, k, 2, 0, 1);
            check.due("item " + k, x.seen(2, 0, due[k], 0), -1);
        }
    }

    private static void copies() {
        check.group("n numbers of a SHEET come to another one's");
        WindowsGive x = new WindowsGive();
        fill(x, 0, 2, 7, 1, 8, 2, 9, 3);
        x.sheet(1, 2, 4);
        check.due("two", x.copy(0, 4, 1, 2, 2), 2);
        check.due("they came", x.weathers(1, 2, 2, 1), 1);
        check.due("as they were", x.told(9, 0), 3);
        check.due("nothing else came", x.weathers(1, 2, 0, 1), 1);
        check.due("all 0", x.told(0, 0), 0);
        check.due("they stay where they were", x.weathers(0, 2, 4, 1), 1);
        check.group("copy of none, at the ends");
        check.due("none", x.copy(0, 6, 1, 4, 0), 0);
        check.due("none", x.copy(0, 0, 1, 0, 0), 0);
        check.group("copy of all");
        x.sheet(1, 2, 6);
        check.due("all", x.copy(0, 0, 1, 0, 6), 6);
        x.sheet(2, 0, 40);
        check.due("all of forty", x.copy(2, 0, 2, 0, 40), 40);
        check.group("(as they were)");
        copied(0, 1, 4, 0, 0, 1, 2, 3);
        copied(1, 0, 4, 1, 2, 3, 4, 4);
        copied(0, 2, 3, 0, 1, 0, 1, 2);
        copied(2, 0, 3, 2, 3, 4, 3, 4);
        copied(0, 0, 5, 0, 1, 2, 3, 4);
        copied(4, 0, 1, 4, 1, 2, 3, 4);
    }

    private static void weathers() {
        check.group("n of them (0 .. 20)");
        WindowsGive x = new WindowsGive();
        x.sheet(0, 2, 40);
        for (int k = 0; k < 20; k++) {
            x.cell(0, 2 * k, k + 12);
            x.cell(0, 2 * k + 1, 1 + k % 9);
        }
        check.due("none", x.weathers(0, 2, 0, 0), 0);
        check.due("nothing became so", x.count(4), 0);
        check.due("twenty", x.weathers(0, 2, 0, 20), 20);
        check.due("the first", x.told(12, 0), 1);
        check.due("the last", x.told(31, 0), 2);
        check.due("none, from its end on", x.weathers(0, 2, 40, 0), 0);
        check.due("the last one", x.weathers(0, 2, 38, 1), 1);
        check.group("two by two, from one on");
        fill(x, 1, 0, 9, 0, 6, 1, 7, 2, 9);
        check.due("from 1", x.weathers(1, 0, 1, 3), 3);
        check.due("day 0", x.told(0, 0), 6);
        check.due("day 1", x.told(1, 0), 7);
        check.due("day 2", x.told(2, 0), 9);
        check.group("(others are left out)");
        fill(x, 1, 2, 31, 0, 31, 9, 32, 1, -1, 1, 5, 10, 5, -1, MIN, MAX, 0, 0);
        check.due("three of eight", x.weathers(1, 2, 0, 8), 3);
        check.due("day 31: the later one", x.told(31, 0), 9);
        check.due("day 0", x.told(0, 0), 0);
        check.due("day 5", x.told(5, 0), 0);
        check.group("-12: what stood ahead became so");
        fill(x, 1, 1, 3, 8, 4, 8, 5);
        check.due("half a pair is left", x.weathers(1, 1, 0, 3), -12);
        check.due("the first", x.told(3, 0), 8);
        check.due("the second", x.told(4, 0), 8);
        check.due("not the third", x.told(5, 0), 0);
        fill(x, 1, 1, 3, 1);
        check.due("the second lacks", x.weathers(1, 1, 0, 2), -12);
        check.due("the first became so", x.told(3, 0), 1);
        check.due("nothing stood ahead", x.weathers(1, 1, -1, 1), -12);
        check.due("as it was", x.told(3, 0), 1);
    }

    private static void taken() {
        check.group("one under that one (also by others between): its NUMBER");
        String[] under = {"0", "01", "02", "013", "024", "05"};
        for (int kind = 0; kind < 6; kind++) {
            for (int number : new int[] {0, 9}) {
                WindowsGive x = paneOf(kind, number, 0, 0);
                for (int k = 0; k < 6; k++) {
                    int due = under[kind].indexOf('0' + k) >= 0 ? number : -13;
                    check.due("kind " + kind + " taken for " + k, x.taken(0, k), due);
                }
            }
        }
        check.group("taken of the last PANE");
        WindowsGive x = new WindowsGive();
        for (int p = 0; p < 8; p++) {
            x.pane(PANE, of(p, 0), 0);
        }
        check.due("pane 7", x.taken(7, 0), 7);
        check.due("pane 8", x.taken(8, 0), -11);
    }

    private static void counts() {
        check.group("count at its most");
        WindowsGive x = new WindowsGive();
        for (int p = 0; p < 8; p++) {
            x.pane(PANE, of(0, 0), 0);
        }
        for (int d = 0; d < 32; d++) {
            x.set(0, d, 9);
        }
        for (int n = 1; n < 6; n++) {
            textOf(x, price("1"));
        }
        x.force(5);
        feedAll(x, "?".repeat(160));
        int[] due = {8, 6, 160, 5, 288};
        for (int what = 0; what < 5; what++) {
            check.due("count(" + what + ")", x.count(what), due[what]);
        }
    }
}
