import java.util.Arrays;

/** Six rooms, thirty-two days, and the panes through which one sees, hears and throws into other days. */
public final class WindowsGive {
    public static final int NONE = -1, BAD = -2, STATE = -3, FULL = -4;
    public static final long NO = -4611686018427387904L;

    private static final int NOTHING = -11, OUTSIDE = -12, OTHER_SORT = -13, BELOW_ZERO = -14;
    private static final int NO_SUCH = -100, NO_SUCH_GIFT = -1000, FAULT_BASE = -100;

    private static final int ROOMS = 6, DAYS = 32, SPOTS = ROOMS * DAYS;
    private static final int PANES_MOST = 8, TEXTS_MOST = 6, TAPE_MOST = 160, OPEN_MOST = 5, DIGITS_MOST = 4;
    private static final int WEATHER_MOST = 9, NUMBER_MOST = 9, SHIFT_MOST = 9, RULE_MOST = 99;
    private static final int SHEETS = 4, SHEET_MOST = 40, TOLD_MOST = 10, PAIRS_MOST = 20;
    private static final int PERSONS_MOST = 4, SEEDS_MOST = 20, WATER_MOST = 99999;

    private static final int PANE = 0, LAGGING = 1, BRICKED = 2, CRACKED = 3, MIRROR = 4, FEAST = 5;
    private static final int[] KIND_ABOVE = {NONE, PANE, PANE, LAGGING, BRICKED, PANE};

    private static final int LOOK = 0, SOUND = 1, THING = 2;
    private static final int BYTES = 0, SHORTS = 1, INTS = 2, MISSING = -1;
    private static final int COSTS_PART = 0, WETS_PART = 1, PRICE_PART = 2, PARTS = 3;

    /** Above every day of waiting that a shortest way can hold, so that panes count first. */
    private static final int PANE_STEP = 1000;
    private static final int FAR = 1000000000;

    private static final String FIRST_RULE = "costs 1 + number ; wets weather ; price weather * 3 ;";

    private final House house = new House();
    private final House kept = new House();
    private boolean imageKept;
    private final Tape tape = new Tape();
    private final Reader reader = new Reader();
    private final Rules rules = new Rules();
    private final Walk walk = new Walk();
    private final Sheet[] sheets = new Sheet[SHEETS];
    private final Pane guess = new Pane(0);
    private final int[] waters = new int[DAYS];
    private final int[] drawnSky = new int[DAYS];
    private final int[] prices = new int[PANES_MOST];

    public WindowsGive() {
        for (int s = 0; s < SHEETS; s++) {
            sheets[s] = new Sheet();
        }
        for (int i = 0; i < FIRST_RULE.length(); i++) {
            tape.put(FIRST_RULE.charAt(i));
        }
        rules.add(reader.read(tape));
        tape.empty();
    }

    // ---- days, panes

    public int set(int what, int of, int v) {
        int was = told(of, what);
        if (was == NO_SUCH || !fits(what, v)) {
            return NO_SUCH;
        }
        if (what == 0) {
            house.sky[of] = v;
        } else {
            house.panes[of].change(what, v);
        }
        return was;
    }

    public int pane(int kind, int what, int rooms) {
        int number = what / 100;
        int shift = what % 100 - SHIFT_MOST;
        int room = rooms / 10;
        int into = rooms % 10;
        if (!isKind(kind) || what < 0 || !fits(1, number) || !fits(2, shift)) {
            return BAD;
        }
        if (rooms < 0 || !isRoom(room) || !isRoom(into)) {
            return BAD;
        }
        if (house.size >= PANES_MOST) {
            return FULL;
        }
        Pane made = house.panes[house.size];
        made.kind = kind;
        made.number = number;
        made.shift = shift;
        made.room = room;
        made.into = into;
        house.size++;
        return made.window;
    }

    public int told(int of, int what) {
        if (what == 0) {
            return isDay(of) ? house.sky[of] : NO_SUCH;
        }
        return house.has(of) ? house.panes[of].tell(what) : NO_SUCH;
    }

    public int gives(int pane, int day, int sort) {
        if (!house.has(pane) || !isDay(day) || sort != NONE && !isSort(sort)) {
            return NO_SUCH_GIFT;
        }
        Pane asked = house.panes[pane];
        if (sort == NONE) {
            return asked.on(day);
        }
        return asked.passes(day, sort) ? 1 : 0;
    }

    // ---- texts

    public int feed(int letter) {
        if (letter < 0 || letter > 255) {
            return BAD;
        }
        return tape.put(letter) ? tape.size : FULL;
    }

    public int text() {
        if (rules.size >= TEXTS_MOST) {
            return FULL;
        }
        Text read = reader.read(tape);
        tape.empty();
        return read == null ? FAULT_BASE - reader.fault : rules.add(read);
    }

    public int force(int text) {
        if (text < 0 || text >= rules.size) {
            return BAD;
        }
        int was = house.rule;
        house.rule = text;
        return was;
    }

    // ---- messages

    public int panes(int from, int to, int sort, int what) {
        if (!isSpot(from) || !isSpot(to) || !isSort(sort) || what < 0 || what > 1) {
            return BAD;
        }
        walk.search(house, null, from, sort);
        int far = walk.far[to];
        if (far >= FAR) {
            return NONE;
        }
        return what == 0 ? far / PANE_STEP : far % PANE_STEP;
    }

    public int cost(int from, int to, int sort) {
        if (!isSpot(from) || !isSpot(to) || !isSort(sort)) {
            return BAD;
        }
        walk.search(house, rules, from, sort);
        return walk.far[to] >= FAR ? NONE : walk.far[to];
    }

    public int earliest(int from, int room, int sort) {
        if (!isSpot(from) || !isRoom(room) || !isSort(sort)) {
            return BAD;
        }
        walk.reach(house, from, sort, 0);
        return walk.firstDay[room] < DAYS ? walk.firstDay[room] : NONE;
    }

    public int loop(int from, int sort) {
        if (!isSpot(from) || !isSort(sort)) {
            return BAD;
        }
        walk.search(house, null, from, sort);
        int fewest = walk.fewestBackTo(house, from, sort);
        return fewest >= FAR ? NONE : fewest;
    }

    public int spots(int from, int sort) {
        if (!isSpot(from) || !isSort(sort)) {
            return BAD;
        }
        walk.reach(house, from, sort, 0);
        int many = 0;
        for (int room = 0; room < ROOMS; room++) {
            many += DAYS - walk.firstDay[room];
        }
        return many;
    }

    public int brick(int from, int to, int sort, int what) {
        if (!isSpot(from) || !isSpot(to) || !isSort(sort) || what < 0 || what > 1) {
            return BAD;
        }
        return what == 0 ? fewestToBrick(from, to, sort) : neededAlone(from, to, sort);
    }

    // ---- whose day it is

    public int seen(int sheet, int pane, int day, int what) {
        int refusal = refusalOfLook(sheet, pane, day, what, 2);
        if (refusal != 0) {
            return refusal;
        }
        Sheet row = sheets[sheet];
        Pane own = house.panes[pane];
        if (what == 0) {
            return firstOther(row, own, day);
        }
        return what == 1 ? fittingShifts(row, own, day) : fittingKinds(row, own, day);
    }

    public int lookNext(int sheet, int pane, int day, int what) {
        int refusal = refusalOfLook(sheet, pane, day, what, 1);
        if (refusal != 0) {
            return refusal;
        }
        Pane own = house.panes[pane];
        int shifts = fittingShifts(sheets[sheet], own, day);
        int bestDay = 0;
        int most = 0;
        for (int d = 0; d < DAYS; d++) {
            int unlike = unlikeShown(own, shifts, d);
            if (unlike > most) {
                most = unlike;
                bestDay = d;
            }
        }
        return what == 0 ? bestDay : most;
    }

    public int film(int sheet, int pane, int day, int n) {
        if (!isSheet(sheet) || !house.has(pane) || !isDay(day) || n < 0 || n > TOLD_MOST) {
            return BAD;
        }
        Sheet row = sheets[sheet];
        row.become(BYTES, n);
        for (int i = 0; i < n; i++) {
            row.put(i, house.shows(house.panes[pane], day + i));
        }
        return n;
    }

    // ---- water, views

    public int water(int room, int day) {
        if (!isRoom(room) || !isDay(day)) {
            return BAD;
        }
        flood(room, house.sky);
        return waters[day];
    }

    public int wettest(int room, int what) {
        if (!isRoom(room) || what < 0 || what > 1) {
            return BAD;
        }
        int together = flood(room, house.sky);
        if (what == 1) {
            return together;
        }
        int wettestDay = 0;
        for (int d = 1; d < DAYS; d++) {
            if (waters[d] > waters[wettestDay]) {
                wettestDay = d;
            }
        }
        return wettestDay;
    }

    public int views(int day, int n, int what) {
        if (!isDay(day) || n < 0 || n > PERSONS_MOST || what < 0 || what > 1) {
            return BAD;
        }
        fillPrices(day);
        int best = NONE;
        int bestSet = 0;
        // Of the ways to share out a set the first gives its panes in order, so sets are enough;
        // pane 0 is the highest bit, so that of like sets the first is met first.
        for (int set = (1 << PANES_MOST) - 1; set >= 0; set--) {
            int price = Integer.bitCount(set) == n ? priceTogether(set) : NONE;
            if (price > best) {
                best = price;
                bestSet = set;
            }
        }
        return what == 0 || best == NONE ? best : digitsOf(bestSet);
    }

    public int drawn(int room, int seed) {
        if (!isRoom(room)) {
            return BAD;
        }
        return drawnWater(room, seed);
    }

    public long chance(int room, int seed, int n, int most, int part) {
        if (!isRoom(room) || n < 1 || n > SEEDS_MOST) {
            return NO;
        }
        if (most < 0 || most > WATER_MOST || part < 0 || part > 1) {
            return NO;
        }
        int dry = 0;
        for (int i = 0; i < n; i++) {
            if (drawnWater(room, seed + i) <= most) {
                dry++;
            }
        }
        int divisor = commonDivisor(n, dry);
        return (part == 0 ? dry : n) / divisor;
    }

    public int image() {
        kept.become(house);
        imageKept = true;
        return kept.size;
    }

    public int back() {
        if (!imageKept) {
            return STATE;
        }
        house.become(kept);
        return house.size;
    }

    public int count(int what) {
        switch (what) {
            case 0:
                return house.size;
            case 1:
                return rules.size;
            case 2:
                return tape.size;
            case 3:
                return house.rule;
            case 4:
                return house.weatherTogether();
            default:
                return BAD;
        }
    }

    // ---- the host

    public int sheet(int sheet, int sort, int n) {
        if (!isSheet(sheet) || sort != MISSING && !isRowSort(sort)) {
            return BAD;
        }
        if (sort == MISSING) {
            sheets[sheet].become(MISSING, 0);
            return 1;
        }
        if (n > SHEET_MOST) {
            return BAD;
        }
        if (n < 0) {
            return BELOW_ZERO;
        }
        sheets[sheet].become(sort, n);
        return 1;
    }

    public int cell(int sheet, int i, int v) {
        if (!isSheet(sheet)) {
            return BAD;
        }
        Sheet row = sheets[sheet];
        if (row.isMissing()) {
            return NOTHING;
        }
        if (!row.has(i)) {
            return OUTSIDE;
        }
        row.put(i, v);
        return 1;
    }

    public int copy(int sheet, int i, int other, int j, int n) {
        if (!isSheet(sheet) || !isSheet(other)) {
            return BAD;
        }
        Sheet source = sheets[sheet];
        Sheet target = sheets[other];
        if (source.isMissing() || target.isMissing()) {
            return NOTHING;
        }
        if (source.sort != target.sort) {
            return OTHER_SORT;
        }
        if (!source.hasRun(i, n) || !target.hasRun(j, n)) {
            return OUTSIDE;
        }
        System.arraycopy(source.items, i, target.items, j, n);
        return n;
    }

    public int weathers(int sheet, int sort, int from, int n) {
        if (!isSheet(sheet) || !isRowSort(sort) || n < 0 || n > PAIRS_MOST) {
            return BAD;
        }
        Sheet row = sheets[sheet];
        if (!row.isMissing() && row.sort != sort) {
            return OTHER_SORT;
        }
        if (row.isMissing()) {
            return NOTHING;
        }
        int became = 0;
        for (int k = 0; k < n; k++) {
            int i = from + 2 * k;
            if (!row.has(i) || !row.has(i + 1)) {
                return OUTSIDE;
            }
            if (set(0, row.items[i], row.items[i + 1]) != NO_SUCH) {
                became++;
            }
        }
        return became;
    }

    public int taken(int pane, int k) {
        if (!isKind(k)) {
            return BAD;
        }
        if (!house.has(pane)) {
            return NOTHING;
        }
        Pane asked = house.panes[pane];
        return isUnder(asked.kind, k) ? asked.number : OTHER_SORT;
    }

    // ---- what is such a number

    private static boolean isRoom(int room) {
        return room >= 0 && room < ROOMS;
    }

    private static boolean isDay(int day) {
        return day >= 0 && day < DAYS;
    }

    private static boolean isSpot(int spot) {
        return spot >= 0 && spot < SPOTS;
    }

    private static boolean isSort(int sort) {
        return sort >= LOOK && sort <= THING;
    }

    private static boolean isKind(int kind) {
        return kind >= PANE && kind <= FEAST;
    }

    private static boolean isSheet(int sheet) {
        return sheet >= 0 && sheet < SHEETS;
    }

    private static boolean isRowSort(int sort) {
        return sort >= BYTES && sort <= INTS;
    }

    /** Whether v can become what set() names by what. */
    private static boolean fits(int what, int v) {
        switch (what) {
            case 0:
                return v >= 0 && v <= WEATHER_MOST;
            case 1:
                return v >= 0 && v <= NUMBER_MOST;
            case 2:
                return v >= -SHIFT_MOST && v <= SHIFT_MOST;
            case 3:
            case 4:
                return isRoom(v);
            default:
                return false;
        }
    }

    private static boolean isUnder(int kind, int above) {
        int at = kind;
        for (int n = 0; n < KIND_ABOVE.length && isKind(at); n++) {
            if (at == above) {
                return true;
            }
            at = KIND_ABOVE[at];
        }
        return false;
    }

    // ---- what the calls above are made of

    private int fewestToBrick(int from, int to, int sort) {
        int sets = 1 << house.size;
        if (walk.comes(house, from, to, sort, sets - 1)) {
            return NONE;
        }
        for (int many = 0; many <= house.size; many++) {
            for (int set = 0; set < sets; set++) {
                if (Integer.bitCount(set) == many && !walk.comes(house, from, to, sort, set)) {
                    return set;
                }
            }
        }
        return NONE;
    }

    private int neededAlone(int from, int to, int sort) {
        int needed = 0;
        for (int p = 0; p < house.size; p++) {
            if (!walk.comes(house, from, to, sort, 1 << p)) {
                needed |= 1 << p;
            }
        }
        return needed;
    }

    private int refusalOfLook(int sheet, int pane, int day, int what, int whatMost) {
        if (!isSheet(sheet) || !house.has(pane) || !isDay(day) || what < 0 || what > whatMost) {
            return BAD;
        }
        if (sheets[sheet].isMissing()) {
            return NOTHING;
        }
        return sheets[sheet].size > TOLD_MOST ? BAD : 0;
    }

    private int firstOther(Sheet row, Pane pane, int day) {
        for (int i = 0; i < row.size; i++) {
            if (row.items[i] != house.shows(pane, day + i)) {
                return i;
            }
        }
        return NONE;
    }

    private int fittingShifts(Sheet row, Pane own, int day) {
        int fitting = 0;
        guess.become(own);
        for (int bit = 0; bit <= 2 * SHIFT_MOST; bit++) {
            guess.shift = bit - SHIFT_MOST;
            if (firstOther(row, guess, day) == NONE) {
                fitting |= 1 << bit;
            }
        }
        return fitting;
    }

    private int fittingKinds(Sheet row, Pane own, int day) {
        int fitting = 0;
        guess.become(own);
        for (int kind = PANE; kind <= FEAST; kind++) {
            guess.kind = kind;
            if (firstOther(row, guess, day) == NONE) {
                fitting |= 1 << kind;
            }
        }
        return fitting;
    }

    /** How many unlike ones a pane would show on a day by these shifts. */
    private int unlikeShown(Pane own, int shifts, int day) {
        int shown = 0;
        guess.become(own);
        for (int bit = 0; bit <= 2 * SHIFT_MOST; bit++) {
            if ((shifts >> bit & 1) == 1) {
                guess.shift = bit - SHIFT_MOST;
                // NONE is -1: one more makes every answer a bit.
                shown |= 1 << (house.shows(guess, day) + 1);
            }
        }
        return Integer.bitCount(shown);
    }

    /** Fills waters with a room's water of every day, by these weathers: all of it together. */
    private int flood(int room, int[] sky) {
        Arrays.fill(waters, 0);
        int together = 0;
        for (int p = 0; p < house.size; p++) {
            Pane pane = house.panes[p];
            for (int d = 0; d < DAYS && pane.leads() == room; d++) {
                if (pane.passes(d, THING)) {
                    int wet = rules.worth(house.rule, WETS_PART, pane, d, sky);
                    waters[pane.on(d)] += wet;
                    together += wet;
                }
            }
        }
        return together;
    }

    private int drawnWater(int room, int seed) {
        int z = seed;
        for (int d = 0; d < DAYS; d++) {
            z = z * 1103515245 + 12345;
            drawnSky[d] = (z >>> 9) % 10;
        }
        return flood(room, drawnSky);
    }

    private static int commonDivisor(int a, int b) {
        int larger = a;
        int smaller = b;
        for (int n = 0; n < 64 && smaller != 0; n++) {
            int rest = larger % smaller;
            larger = smaller;
            smaller = rest;
        }
        return larger < 1 ? 1 : larger;
    }

    private void fillPrices(int day) {
        for (int p = 0; p < PANES_MOST; p++) {
            boolean looks = p < house.size && house.panes[p].passes(day, LOOK);
            prices[p] = looks ? rules.worth(house.rule, PRICE_PART, house.panes[p], day, house.sky) : NONE;
        }
    }

    private static boolean holds(int set, int pane) {
        return (set >> (PANES_MOST - 1 - pane) & 1) == 1;
    }

    private int priceTogether(int set) {
        int together = 0;
        for (int p = 0; p < PANES_MOST; p++) {
            if (holds(set, p)) {
                if (prices[p] == NONE) {
                    return NONE;
                }
                together += prices[p];
            }
        }
        return together;
    }

    private static int digitsOf(int set) {
        int digits = 0;
        for (int p = 0; p < PANES_MOST; p++) {
            if (holds(set, p)) {
                digits = digits * 10 + p + 1;
            }
        }
        return digits;
    }

    /** A pane; the same one serves again when it has gone and another comes. */
    private static final class Pane {
        final int window;
        int kind;
        int number;
        int shift;
        int room;
        int into;

        Pane(int window) {
            this.window = window;
        }

        void become(Pane other) {
            kind = other.kind;
            number = other.number;
            shift = other.shift;
            room = other.room;
            into = other.into;
        }

        void change(int what, int v) {
            switch (what) {
                case 1:
                    number = v;
                    break;
                case 2:
                    shift = v;
                    break;
                case 3:
                    room = v;
                    break;
                case 4:
                    into = v;
                    break;
                default:
                    break;
            }
        }

        int tell(int what) {
            switch (what) {
                case 1:
                    return number;
                case 2:
                    return shift;
                case 3:
                    return room;
                case 4:
                    return into;
                case 5:
                    return kind;
                case 6:
                    return leads();
                default:
                    return NO_SUCH;
            }
        }

        /** May be no day. */
        int on(int day) {
            switch (kind) {
                case LAGGING:
                case CRACKED:
                    return day + shift - number;
                case MIRROR:
                    return day;
                case FEAST:
                    return day + shift * (number + 1);
                default:
                    return day + shift;
            }
        }

        boolean passes(int day, int sort) {
            return isDay(on(day)) && lets(day, sort);
        }

        private boolean lets(int day, int sort) {
            switch (kind) {
                case BRICKED:
                    return sort == SOUND;
                case CRACKED:
                    return true;
                case MIRROR:
                    return sort == LOOK;
                case FEAST:
                    return number >= 0 && day % (number + 1) == 0;
                default:
                    return sort == LOOK || sort == SOUND;
            }
        }

        int leads() {
            return kind == MIRROR ? room : into;
        }

        /** The least day on which it comes out that may wait from a day on; DAYS, if it never does. */
        int firstOut(int from, int sort) {
            // A pane gives as many days off on every day, so the first pass comes out first.
            for (int d = from; d < DAYS; d++) {
                if (passes(d, sort)) {
                    return on(d);
                }
            }
            return DAYS;
        }
    }

    /** All that an image keeps. */
    private static final class House {
        final int[] sky = new int[DAYS];
        final Pane[] panes = new Pane[PANES_MOST];
        int size;
        int rule;

        House() {
            for (int p = 0; p < PANES_MOST; p++) {
                panes[p] = new Pane(p);
            }
        }

        boolean has(int pane) {
            return pane >= 0 && pane < size;
        }

        void become(House other) {
            System.arraycopy(other.sky, 0, sky, 0, DAYS);
            for (int p = 0; p < PANES_MOST; p++) {
                panes[p].become(other.panes[p]);
            }
            size = other.size;
            rule = other.rule;
        }

        int shows(Pane pane, int day) {
            return isDay(day) && pane.passes(day, LOOK) ? sky[pane.on(day)] : NONE;
        }

        int weatherTogether() {
            int together = 0;
            for (int d = 0; d < DAYS; d++) {
                together += sky[d];
            }
            return together;
        }
    }

    /** Where a message comes, and how far that is. */
    private static final class Walk {
        /** By rooms the first day to which it comes; who comes to a day comes, by waiting, to all behind it. */
        final int[] firstDay = new int[ROOMS];
        final int[] far = new int[SPOTS];
        private final int[] settled = new int[SPOTS];

        /** Fills firstDay (DAYS: it never comes there), as if the panes of these bits were not there. */
        void reach(House house, int from, int sort, int without) {
            Arrays.fill(firstDay, DAYS);
            firstDay[from / DAYS] = from % DAYS;
            boolean changed = true;
            // Every round but the last brings a room's first day down.
            for (int round = 0; round <= SPOTS && changed; round++) {
                changed = passAll(house, sort, without);
            }
        }

        boolean comes(House house, int from, int to, int sort, int without) {
            reach(house, from, sort, without);
            return firstDay[to / DAYS] <= to % DAYS;
        }

        private boolean passAll(House house, int sort, int without) {
            boolean changed = false;
            for (int p = 0; p < house.size; p++) {
                Pane pane = house.panes[p];
                if ((without >> p & 1) == 0) {
                    int day = pane.firstOut(firstDay[pane.room], sort);
                    if (day < firstDay[pane.leads()]) {
                        firstDay[pane.leads()] = day;
                        changed = true;
                    }
                }
            }
            return changed;
        }

        /** Fills far: the least cost by these rules; without rules the fewest panes, then days of waiting. */
        void search(House house, Rules rules, int from, int sort) {
            Arrays.fill(far, FAR);
            Arrays.fill(settled, 0);
            far[from] = 0;
            for (int n = 0; n < SPOTS; n++) {
                int spot = nearest();
                if (spot == NONE) {
                    return;
                }
                settled[spot] = 1;
                leave(house, rules, spot, sort);
            }
        }

        private int nearest() {
            int best = NONE;
            int least = FAR;
            for (int spot = 0; spot < SPOTS; spot++) {
                if (settled[spot] == 0 && far[spot] < least) {
                    least = far[spot];
                    best = spot;
                }
            }
            return best;
        }

        private void leave(House house, Rules rules, int spot, int sort) {
            int room = spot / DAYS;
            int day = spot % DAYS;
            if (day + 1 < DAYS) {
                shorten(spot + 1, far[spot] + 1);
            }
            for (int p = 0; p < house.size; p++) {
                Pane pane = house.panes[p];
                if (pane.room == room && pane.passes(day, sort)) {
                    int step = rules == null ? PANE_STEP
                            : rules.worth(house.rule, COSTS_PART, pane, day, house.sky);
                    shorten(pane.leads() * DAYS + pane.on(day), far[spot] + step);
                }
            }
        }

        private void shorten(int spot, int length) {
            if (length < far[spot]) {
                far[spot] = length;
            }
        }

        /** Fewest panes back to where a search by panes began; FAR, if it does not come back. */
        int fewestBackTo(House house, int from, int sort) {
            int fewest = FAR;
            // Who waits till the day it left has been on the day ahead of it, by one pane at least.
            if (from % DAYS > 0 && far[from - 1] < FAR) {
                fewest = far[from - 1] / PANE_STEP;
            }
            for (int p = 0; p < house.size; p++) {
                Pane pane = house.panes[p];
                for (int d = 0; d < DAYS; d++) {
                    int before = far[pane.room * DAYS + d];
                    if (before < FAR && pane.passes(d, sort) && pane.leads() * DAYS + pane.on(d) == from) {
                        fewest = Math.min(fewest, before / PANE_STEP + 1);
                    }
                }
            }
            return fewest;
        }
    }

    /** A row of bytes, shorts or ints, or missing. */
    private static final class Sheet {
        final int[] items = new int[SHEET_MOST];
        int sort = MISSING;
        int size;

        boolean isMissing() {
            return sort == MISSING;
        }

        boolean has(int i) {
            return i >= 0 && i < size;
        }

        boolean hasRun(int i, int n) {
            return i >= 0 && n >= 0 && i <= size && n <= size - i;
        }

        void become(int newSort, int n) {
            Arrays.fill(items, 0);
            sort = newSort;
            size = n;
        }

        void put(int i, int v) {
            if (sort == BYTES) {
                items[i] = (byte) v;
            } else {
                items[i] = sort == SHORTS ? (short) v : v;
            }
        }
    }

    /** A text as it is reckoned: operations for a stack, one part behind the other. */
    private static final class Text {
        final int[] code;
        final int[] ends;

        Text(int[] code, int[] ends) {
            this.code = code;
            this.ends = ends;
        }

        int start(int part) {
            return part > 0 && part < ends.length ? ends[part - 1] : 0;
        }

        int end(int part) {
            return part >= 0 && part < ends.length ? ends[part] : 0;
        }
    }

    /** THE TAPE, and how it is cut into tokens. */
    private static final class Tape {
        static final int END = -1, BROKEN = -2;
        // Signs are tokens by their own byte, so these stay below them.
        static final int NUMBER = 1, NAME = 2;
        static final int COSTS = 3, WETS = 4, PRICE = 5, OR = 6, AND = 7, NOT = 8;
        private static final int NAMES = 6, WORDS = 12;

        private final int[] bytes = new int[TAPE_MOST];
        int size;
        private int at;
        // One more than bytes, for the end.
        final int[] tokens = new int[TAPE_MOST + 1];
        final int[] values = new int[TAPE_MOST + 1];
        final int[] places = new int[TAPE_MOST + 1];
        int many;

        boolean put(int letter) {
            if (size >= TAPE_MOST) {
                return false;
            }
            bytes[size] = letter;
            size++;
            return true;
        }

        void empty() {
            size = 0;
        }

        /** Fills tokens; the last one is the end, or one that can stand nowhere. */
        void cut() {
            at = 0;
            int token = 0;
            for (many = 0; many <= TAPE_MOST && token != END && token != BROKEN; many++) {
                skipBlanks();
                places[many] = at;
                values[many] = 0;
                token = cutOne();
                tokens[many] = token;
            }
        }

        private void skipBlanks() {
            while (at < size && (bytes[at] == ' ' || bytes[at] == '\n')) {
                at++;
            }
        }

        private int cutOne() {
            if (at >= size) {
                return END;
            }
            if (isLetter(bytes[at])) {
                return cutWord();
            }
            if (isDigit(bytes[at])) {
                return cutNumber();
            }
            int sign = bytes[at];
            at++;
            return isSign(sign) ? sign : BROKEN;
        }

        private int cutNumber() {
            int start = at;
            int value = 0;
            while (at < size && isDigit(bytes[at])) {
                // What wraps here is too long, and refused.
                value = value * 10 + bytes[at] - '0';
                at++;
            }
            values[many] = value;
            return at - start <= DIGITS_MOST ? NUMBER : BROKEN;
        }

        private int cutWord() {
            int start = at;
            while (at < size && isLetter(bytes[at])) {
                at++;
            }
            for (int word = 0; word < WORDS; word++) {
                if (stands(spelling(word), start)) {
                    values[many] = word;
                    return word < NAMES ? NAME : COSTS + word - NAMES;
                }
            }
            return BROKEN;
        }

        /** Whether this is the word from start to at. */
        private boolean stands(String word, int start) {
            if (at - start != word.length()) {
                return false;
            }
            for (int i = 0; i < word.length(); i++) {
                if (bytes[start + i] != word.charAt(i)) {
                    return false;
                }
            }
            return true;
        }

        private static boolean isLetter(int b) {
            return b >= 'a' && b <= 'z';
        }

        private static boolean isDigit(int b) {
            return b >= '0' && b <= '9';
        }

        private static boolean isSign(int b) {
            switch (b) {
                case '(':
                case ')':
                case ';':
                case '+':
                case '-':
                case '*':
                case '<':
                case '=':
                    return true;
                default:
                    return false;
            }
        }

        /** Names in the order of Rules.names, then keys in the order of their tokens. */
        private static String spelling(int word) {
            switch (word) {
                case 0:
                    return "day";
                case 1:
                    return "shift";
                case 2:
                    return "number";
                case 3:
                    return "weather";
                case 4:
                    return "window";
                case 5:
                    return "room";
                case 6:
                    return "costs";
                case 7:
                    return "wets";
                case 8:
                    return "price";
                case 9:
                    return "or";
                case 10:
                    return "and";
                default:
                    return "not";
            }
        }
    }

    /** How a text is read from a tape: a method for each word of the grammar. */
    private static final class Reader {
        int fault;
        private int at;
        private int token;
        private int length;
        private final int[] code = new int[TAPE_MOST];
        private final int[] ends = new int[PARTS];

        /** The text on the tape; null, if it has a fault, of which fault tells the place. */
        Text read(Tape tape) {
            tape.cut();
            at = 0;
            length = 0;
            fault = NONE;
            token = tape.tokens[0];
            readPart(tape, Tape.COSTS, COSTS_PART);
            readPart(tape, Tape.WETS, WETS_PART);
            readPart(tape, Tape.PRICE, PRICE_PART);
            expect(tape, Tape.END);
            return fault == NONE ? new Text(Arrays.copyOf(code, length), Arrays.copyOf(ends, PARTS)) : null;
        }

        private void readPart(Tape tape, int key, int part) {
            expect(tape, key);
            readOr(tape, 0);
            expect(tape, ';');
            ends[part] = length;
        }

        // In these, open tells how many brackets, nots and minus signs are open.

        private void readOr(Tape tape, int open) {
            readAnd(tape, open);
            for (int n = 0; n < TAPE_MOST && token == Tape.OR; n++) {
                advance(tape);
                readAnd(tape, open);
                emit(Rules.OR, 0);
            }
        }

        private void readAnd(Tape tape, int open) {
            readNot(tape, open);
            for (int n = 0; n < TAPE_MOST && token == Tape.AND; n++) {
                advance(tape);
                readNot(tape, open);
                emit(Rules.AND, 0);
            }
        }

        private void readNot(Tape tape, int open) {
            if (token == Tape.NOT && open < OPEN_MOST) {
                advance(tape);
                readNot(tape, open + 1);
                emit(Rules.NOT, 0);
                return;
            }
            readSum(tape, open);
            if (token == '<' || token == '=') {
                int operation = token == '<' ? Rules.LESS : Rules.SAME;
                advance(tape);
                readSum(tape, open);
                emit(operation, 0);
            }
        }

        private void readSum(Tape tape, int open) {
            readTerm(tape, open);
            for (int n = 0; n < TAPE_MOST && (token == '+' || token == '-'); n++) {
                int operation = token == '+' ? Rules.PLUS : Rules.MINUS;
                advance(tape);
                readTerm(tape, open);
                emit(operation, 0);
            }
        }

        private void readTerm(Tape tape, int open) {
            readOne(tape, open);
            for (int n = 0; n < TAPE_MOST && token == '*'; n++) {
                advance(tape);
                readOne(tape, open);
                emit(Rules.TIMES, 0);
            }
        }

        private void readOne(Tape tape, int open) {
            if (token == Tape.NUMBER || token == Tape.NAME) {
                emit(token == Tape.NUMBER ? Rules.PUSH_NUMBER : Rules.PUSH_NAME, tape.values[at]);
                advance(tape);
            } else if (token == '-' && open < OPEN_MOST) {
                advance(tape);
                readOne(tape, open + 1);
                emit(Rules.NEGATE, 0);
            } else if (token == '(' && open < OPEN_MOST) {
                advance(tape);
                readOr(tape, open + 1);
                expect(tape, ')');
            } else {
                fail(tape);
            }
        }

        private void expect(Tape tape, int wanted) {
            if (token == wanted) {
                advance(tape);
            } else {
                fail(tape);
            }
        }

        private void advance(Tape tape) {
            if (at + 1 < tape.many) {
                at++;
            }
            token = tape.tokens[at];
        }

        private void fail(Tape tape) {
            if (fault == NONE) {
                fault = tape.places[at];
            }
            // Nobody takes a broken token, so nothing is read behind a fault.
            token = Tape.BROKEN;
        }

        private void emit(int operation, int operand) {
            if (length < code.length) {
                code[length] = operand * Rules.OPERATIONS + operation;
                length++;
            }
        }
    }

    /** The texts, and what they tell of a pane on a day. */
    private static final class Rules {
        static final int PUSH_NUMBER = 0, PUSH_NAME = 1, NEGATE = 2, NOT = 3;
        static final int PLUS = 4, MINUS = 5, TIMES = 6, LESS = 7, SAME = 8, AND = 9, OR = 10, OPERATIONS = 16;

        private final Text[] texts = new Text[TEXTS_MOST];
        int size;
        private final int[] names = new int[6];
        private final int[] stack = new int[TAPE_MOST];

        /** The number that it has then; FULL. */
        int add(Text text) {
            if (size >= TEXTS_MOST) {
                return FULL;
            }
            texts[size] = text;
            size++;
            return size - 1;
        }

        /** What a part of a text tells of a pane on a day under these weathers, within its bounds. */
        int worth(int text, int part, Pane pane, int day, int[] sky) {
            if (text < 0 || text >= size || texts[text] == null) {
                return 0;
            }
            int on = pane.on(day);
            names[0] = day;
            names[1] = pane.shift;
            names[2] = pane.number;
            names[3] = isDay(on) ? sky[on] : 0;
            names[4] = pane.window;
            names[5] = pane.room;
            int least = part == COSTS_PART ? 1 : 0;
            return Math.max(least, Math.min(RULE_MOST, reckon(texts[text], part)));
        }

        private int reckon(Text text, int part) {
            int height = 0;
            for (int i = text.start(part); i < text.end(part); i++) {
                int operation = text.code[i] % OPERATIONS;
                int operand = text.code[i] / OPERATIONS;
                if (operation == PUSH_NUMBER || operation == PUSH_NAME) {
                    if (height >= stack.length) {
                        return 0;
                    }
                    stack[height] = operation == PUSH_NUMBER ? operand : nameOf(operand);
                    height++;
                } else if (operation == NEGATE || operation == NOT) {
                    if (height < 1) {
                        return 0;
                    }
                    int top = stack[height - 1];
                    stack[height - 1] = operation == NEGATE ? -top : truth(top == 0);
                } else {
                    if (height < 2) {
                        return 0;
                    }
                    height--;
                    stack[height - 1] = joined(operation, stack[height - 1], stack[height]);
                }
            }
            return height > 0 ? stack[height - 1] : 0;
        }

        private int nameOf(int name) {
            return name >= 0 && name < names.length ? names[name] : 0;
        }

        private static int joined(int operation, int a, int b) {
            switch (operation) {
                case PLUS:
                    return a + b;
                case MINUS:
                    return a - b;
                case TIMES:
                    return a * b;
                case LESS:
                    return truth(a < b);
                case SAME:
                    return truth(a == b);
                case AND:
                    return truth(a != 0 && b != 0);
                default:
                    return truth(a != 0 || b != 0);
            }
        }

        private static int truth(boolean holds) {
            return holds ? 1 : 0;
        }
    }
}
