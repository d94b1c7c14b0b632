import java.util.Arrays;

/**
 * Houses that test guests, as ../shared/DOC.md promises them.
 *
 * All rows are made in constructors and used again, so no call makes an object.
 * What is tried (gear, a kind, a barred kind) is lent to the way and taken back at once.
 */
public final class TrickHouses {
    public static final int UNKNOWN = -1, OUTSIDE = -2, STATE = -3, FULL = -4, NONE = -9;
    public static final long LOST = Long.MIN_VALUE;

    private static final int NO_FAULT = 0, NULL = 1, CAST = 2, INDEX = 3, SIZE = 4;
    private static final int PLAIN = 0, DOUBLE = 1, LEARNING = 2, HOUSE_KINDS = 3;
    private static final int MOST_HOUSES = 6, MOST_GUESTS = 5, MOST_READINGS = 8, MOST_VISITS = 20;
    private static final int GEAR_KINDS = 6, NO_KIND = 6, GEAR_SETS = 64;
    private static final int SHEETS = 4, LANES = 3, MOST_CELLS = 60;
    private static final int NUMBERED = 10;

    private final Sheet[] sheets;
    private final Text text;
    private final Way road;
    private final Walk walk;
    private final Search search;
    private final Trials trials;
    private final Readings readings;
    private int traced;
    private int latestFault;

    public TrickHouses() {
        sheets = new Sheet[SHEETS];
        for (int k = 0; k < SHEETS; k++) {
            sheets[k] = new Sheet();
        }
        text = new Text();
        road = new Way();
        walk = new Walk(road);
        search = new Search(road, walk);
        trials = new Trials(road, walk);
        readings = new Readings(road, walk);
        traced = 0;
        latestFault = NO_FAULT;
    }

    // ---- 1 the way

    public int way(int sheet, int lane, int i, int n) {
        latestFault = NO_FAULT;
        Sheet from = sheetOf(sheet);
        if (from == null) {
            return UNKNOWN;
        }
        if (!isBelow(lane, LANES)) {
            return OUTSIDE;
        }
        int came = from.faultOfTaking(lane, i, n);
        if (came != NO_FAULT) {
            return failed(came);
        }
        text.read(from, i, n);
        int wrong = text.firstFault();
        if (wrong != NONE) {
            return -100 - wrong;
        }
        road.become(text);
        readings.count = 0;
        return road.houses;
    }

    public int ofHouse(int h, int what) {
        if (!road.hasHouse(h)) {
            return UNKNOWN;
        }
        switch (what) {
            case 0:
                return road.kind[h];
            case 1:
                return road.helps[h];
            case 2:
                return road.helpsToo[h];
            case 3:
                return road.bars[h];
            default:
                return OUTSIDE;
        }
    }

    public int gear(int g) {
        return road.hasGuest(g) ? road.gear[g] : UNKNOWN;
    }

    public int give(int g, int set) {
        if (!road.hasGuest(g)) {
            return UNKNOWN;
        }
        if (!isBelow(set, GEAR_SETS)) {
            return OUTSIDE;
        }
        int before = road.gear[g];
        road.gear[g] = set;
        return before;
    }

    public int bar(int h, int kind) {
        if (!road.hasHouse(h)) {
            return UNKNOWN;
        }
        if (kind != NO_KIND && !isBelow(kind, GEAR_KINDS)) {
            return OUTSIDE;
        }
        int before = road.bars[h];
        road.bars[h] = kind;
        return before;
    }

    public int passes(int h, int set, int knows) {
        if (!road.hasHouse(h)) {
            return UNKNOWN;
        }
        if (!isBelow(set, GEAR_SETS) || !isBelow(knows, GEAR_SETS)) {
            return OUTSIDE;
        }
        return road.usedIn(h, set, knows);
    }

    // ---- 2 visits, goings

    public int visits(int sheet, int lane, int i, int n, int what) {
        latestFault = NO_FAULT;
        Sheet from = sheetOf(sheet);
        if (from == null) {
            return UNKNOWN;
        }
        boolean asked = what == 0 || what == 1 || isBelow(what - NUMBERED, MOST_HOUSES);
        if (!isBelow(lane, LANES) || !isBelow(n, MOST_VISITS + 1) || !asked) {
            return OUTSIDE;
        }
        int came = from.faultOfTaking(lane, i, 2 * n);
        if (came != NO_FAULT) {
            return failed(came);
        }
        if (!road.isTold()) {
            return STATE;
        }
        int refused = refusalOfPairs(from, i, n);
        if (refused != 0) {
            return refused;
        }
        walk.begin();
        for (int k = 0; k < n; k++) {
            walk.visit(k, from.cells[i + 2 * k], from.cells[i + 2 * k + 1]);
        }
        return ofVisits(what);
    }

    public int going(int sheet, int lane, int i, int n, int what) {
        latestFault = NO_FAULT;
        Sheet from = sheetOf(sheet);
        if (from == null) {
            return UNKNOWN;
        }
        boolean asked = what == 0 || isBelow(what - NUMBERED, MOST_GUESTS);
        if (!isBelow(lane, LANES) || !asked) {
            return OUTSIDE;
        }
        int came = from.faultOfTaking(lane, i, n);
        if (came != NO_FAULT) {
            return failed(came);
        }
        if (!road.isTold()) {
            return STATE;
        }
        if (!isOrder(from, i, n)) {
            return UNKNOWN;
        }
        walk.begin();
        for (int k = 0; k < n; k++) {
            walk.goAlone(from.cells[i + k]);
        }
        return what == 0 ? walk.through : walk.lostIn[what - NUMBERED];
    }

    // ---- 3 the least, the best

    public int least() {
        return road.isTold() ? road.leastGear() : STATE;
    }

    public int hard() {
        return road.isTold() ? road.firstNotPassedBy(GEAR_SETS - 1) : STATE;
    }

    public int best(int k) {
        if (k < -1) {
            return UNKNOWN;
        }
        if (!road.isTold()) {
            return STATE;
        }
        if (k >= road.guests) {
            return NONE;
        }
        search.findBest();
        return k < 0 ? search.most : search.found[k];
    }

    public int twos(int g) {
        if (g != -1 && !road.hasGuest(g)) {
            return UNKNOWN;
        }
        if (!road.isTold()) {
            return STATE;
        }
        search.findTwos();
        return g < 0 ? search.most : search.found[g];
    }

    public int gift(int what) {
        if (!isBelow(what, 2)) {
            return OUTSIDE;
        }
        if (!road.isTold()) {
            return STATE;
        }
        trials.findGift();
        return what == 0 ? trials.found : trials.come;
    }

    public int worst(int what) {
        if (!isBelow(what, 2)) {
            return OUTSIDE;
        }
        if (!road.isTold()) {
            return STATE;
        }
        trials.findWorst();
        return what == 0 ? trials.found : trials.come;
    }

    // ---- 4 what was seen

    public int reading(int g, int h) {
        if (!road.hasGuest(g) || (h != NONE && !road.hasHouse(h))) {
            return UNKNOWN;
        }
        return readings.isFull() ? FULL : readings.add(g, h);
    }

    public int back(int k) {
        if (!isBelow(k, readings.count + 1)) {
            return OUTSIDE;
        }
        readings.count -= k;
        return readings.count;
    }

    public int had(int g, int what) {
        if (!road.hasGuest(g)) {
            return UNKNOWN;
        }
        if (!isBelow(what, 2)) {
            return OUTSIDE;
        }
        readings.findHad(g);
        return what == 0 ? readings.fitting : readings.leastFitting;
    }

    public int kinds(int h) {
        return road.hasHouse(h) ? readings.kindsOf(h) : UNKNOWN;
    }

    public long odds(int g, int which) {
        if (!road.hasGuest(g) || !isBelow(which, 2)) {
            return LOST;
        }
        search.countThroughOf(g);
        int shared = sharedDivisor(search.good, search.all);
        int part = which == 0 ? search.good : search.all;
        return shared > 0 ? part / shared : part;
    }

    // ---- 5 sheets, parts

    public int sheet(int k, int lane, int n) {
        latestFault = NO_FAULT;
        Sheet at = sheetOf(k);
        if (at == null) {
            return UNKNOWN;
        }
        if (!isBelow(lane, LANES) || n > MOST_CELLS) {
            return OUTSIDE;
        }
        if (n < 0) {
            return failed(SIZE);
        }
        at.renew(lane, n);
        return 1;
    }

    public int lose(int k) {
        Sheet at = sheetOf(k);
        if (at == null) {
            return UNKNOWN;
        }
        int had = at.hasRow ? 1 : 0;
        at.hasRow = false;
        return had;
    }

    public int put(int k, int i, int v) {
        latestFault = NO_FAULT;
        Sheet at = sheetOf(k);
        if (at == null) {
            return UNKNOWN;
        }
        if (!at.hasRow) {
            return failed(NULL);
        }
        if (!isBelow(i, at.length)) {
            return failed(INDEX);
        }
        at.cells[i] = at.cut(v);
        return 1;
    }

    public long cell(int k, int i, int lane) {
        latestFault = NO_FAULT;
        Sheet at = sheetOf(k);
        if (at == null || !isBelow(lane, LANES)) {
            return LOST;
        }
        latestFault = at.faultOfTaking(lane, i, 1);
        return latestFault == NO_FAULT ? at.cells[i] : LOST;
    }

    public int copy(int k, int i, int other, int j, int n) {
        latestFault = NO_FAULT;
        Sheet from = sheetOf(k);
        Sheet to = sheetOf(other);
        if (from == null || to == null) {
            return UNKNOWN;
        }
        if (!from.hasRow || !to.hasRow) {
            return failed(NULL);
        }
        if (from.lane != to.lane) {
            return failed(CAST);
        }
        if (!from.holds(i, n) || !to.holds(j, n)) {
            return failed(INDEX);
        }
        System.arraycopy(from.cells, i, to.cells, j, n);
        return n;
    }

    public int tell(int h) {
        if (!road.hasHouse(h)) {
            return UNKNOWN;
        }
        switch (road.kind[h]) {
            case LEARNING:
                return bodyOfLearning(h);
            case DOUBLE:
                return bodyOfDouble(h);
            default:
                return bodyOfHouse(h);
        }
    }

    public int knock(int h) {
        if (!road.hasHouse(h)) {
            return UNKNOWN;
        }
        return road.kind[h] == LEARNING ? ownKnock() : lentKnock(h);
    }

    public int as(int h, int kind) {
        latestFault = NO_FAULT;
        if (!road.hasHouse(h)) {
            return UNKNOWN;
        }
        if (!isBelow(kind, HOUSE_KINDS)) {
            return OUTSIDE;
        }
        // each kind is all the kinds numbered below it, too
        return kind <= road.kind[h] ? 1 : failed(CAST);
    }

    public int trace() {
        return traced;
    }

    public int fault() {
        return latestFault;
    }

    public int many(int what) {
        switch (what) {
            case 0:
                return road.houses;
            case 1:
                return road.guests;
            case 2:
                return readings.count;
            default:
                return OUTSIDE;
        }
    }

    // ---- what the calls share

    private static boolean isBelow(int number, int bound) {
        return number >= 0 && number < bound;
    }

    private Sheet sheetOf(int k) {
        return isBelow(k, SHEETS) ? sheets[k] : null;
    }

    private int failed(int came) {
        latestFault = came;
        return -10 - came;
    }

    /** What the first pair that is not as told answers; 0 if all are. */
    private int refusalOfPairs(Sheet from, int i, int n) {
        for (int k = 0; k < n; k++) {
            if ((from.cells[i + 2 * k] & ~road.everyone()) != 0) {
                return OUTSIDE;
            }
            if (!road.hasHouse(from.cells[i + 2 * k + 1])) {
                return UNKNOWN;
            }
        }
        return 0;
    }

    private int ofVisits(int what) {
        if (what == 0) {
            return walk.gone;
        }
        if (what == 1) {
            return walk.firstLoss;
        }
        int h = what - NUMBERED;
        return road.hasHouse(h) ? walk.knows[h] : NONE;
    }

    private boolean isOrder(Sheet from, int i, int n) {
        int seen = 0;
        for (int k = 0; k < n; k++) {
            int g = from.cells[i + k];
            if (!road.hasGuest(g) || (seen & 1 << g) != 0) {
                return false;
            }
            seen |= 1 << g;
        }
        return true;
    }

    /** The greatest number that divides both: all of the second, if the first is 0. */
    private static int sharedDivisor(int part, int whole) {
        if (part == 0) {
            return whole;
        }
        for (int d = part; d > 1; d--) {
            if (part % d == 0 && whole % d == 0) {
                return d;
            }
        }
        return 1;
    }

    private void leave(int number) {
        traced = 31 * traced + number;
    }

    private int bodyOfHouse(int h) {
        leave(1);
        return road.bars[h];
    }

    private int bodyOfDouble(int h) {
        leave(2);
        return bodyOfHouse(h) + 100;
    }

    private int bodyOfLearning(int h) {
        leave(3);
        int asDouble = bodyOfDouble(h);
        return asDouble + bodyOfHouse(h);
    }

    private int lentKnock(int h) {
        leave(4);
        return h;
    }

    private int ownKnock() {
        leave(5);
        return 80;
    }

    /** A sheet: its row is the first cells of one that is made once, for the longest. */
    private static final class Sheet {
        final int[] cells;
        boolean hasRow;
        int lane;
        int length;

        Sheet() {
            cells = new int[MOST_CELLS];
            hasRow = false;
            lane = 0;
            length = 0;
        }

        void renew(int newLane, int newLength) {
            Arrays.fill(cells, 0);
            hasRow = true;
            lane = newLane;
            length = newLength;
        }

        int cut(int v) {
            switch (lane) {
                case 0:
                    return (byte) v;
                case 1:
                    return (short) v;
                default:
                    return v;
            }
        }

        /** By subtraction, as i and n together may wrap. */
        boolean holds(int i, int n) {
            return i >= 0 && i <= length && n >= 0 && n <= length - i;
        }

        int faultOfTaking(int asLane, int i, int n) {
            if (!hasRow) {
                return NULL;
            }
            if (lane != asLane) {
                return CAST;
            }
            if (n < 0) {
                return SIZE;
            }
            return holds(i, n) ? NO_FAULT : INDEX;
        }
    }

    /** Codes that are looked at as a TEXT; as all its parts are of one length each, places are reckoned. */
    private static final class Text {
        private static final int NO_CODE = -1;
        private static final int HOUSE_CODES = 5, GUEST_CODES = 3;

        final int[] codes;
        int count;
        int houses;
        int guests;

        Text() {
            codes = new int[MOST_CELLS];
            count = 0;
            houses = 0;
            guests = 0;
        }

        void read(Sheet from, int i, int n) {
            System.arraycopy(from.cells, i, codes, 0, n);
            count = n;
        }

        /** NONE, if it is a TEXT: houses and guests are its own then. */
        int firstFault() {
            houses = 0;
            guests = 0;
            if (codeAt(0) != 'x') {
                return 0;
            }
            int place = 1;
            while (houses < MOST_HOUSES && codeAt(place) == ';') {
                int good = goodOfHouse(place);
                if (good < HOUSE_CODES) {
                    return place + good;
                }
                houses++;
                place += HOUSE_CODES;
            }
            if (houses == 0) {
                return place;
            }
            while (guests < MOST_GUESTS && codeAt(place) == ',') {
                int good = goodOfGuest(place);
                if (good < GUEST_CODES) {
                    return place + good;
                }
                guests++;
                place += GUEST_CODES;
            }
            return guests > 0 && place == count ? NONE : place;
        }

        int kindOfHouse(int h) {
            return kindAt(placeOfHouse(h) + 1);
        }

        /** Digit d of a house: 0, 1 what helps, 2 what it bars. */
        int digitOfHouse(int h, int d) {
            return digitAt(placeOfHouse(h) + 2 + d);
        }

        int gearOfGuest(int g) {
            int place = placeOfHouse(houses) + GUEST_CODES * g;
            return 10 * digitAt(place + 1) + digitAt(place + 2);
        }

        private int placeOfHouse(int h) {
            return 1 + HOUSE_CODES * h;
        }

        /** How many codes of a house are good, from its ; on. */
        private int goodOfHouse(int place) {
            if (kindAt(place + 1) == NONE) {
                return 1;
            }
            if (!isBelow(digitAt(place + 2), GEAR_KINDS)) {
                return 2;
            }
            if (!isBelow(digitAt(place + 3), GEAR_KINDS)) {
                return 3;
            }
            return isBelow(digitAt(place + 4), NO_KIND + 1) ? HOUSE_CODES : 4;
        }

        /** How many codes of a guest are good, from its comma on. */
        private int goodOfGuest(int place) {
            int tens = digitAt(place + 1);
            int ones = digitAt(place + 2);
            if (!isBelow(tens, 7)) {
                return 1;
            }
            return isBelow(ones, 10) && 10 * tens + ones < GEAR_SETS ? GUEST_CODES : 2;
        }

        private int codeAt(int place) {
            return isBelow(place, count) ? codes[place] : NO_CODE;
        }

        private int kindAt(int place) {
            switch (codeAt(place)) {
                case 'h':
                    return PLAIN;
                case 'd':
                    return DOUBLE;
                case 'l':
                    return LEARNING;
                default:
                    return NONE;
            }
        }

        /** Beyond 0 .. 9 for all that is no digit. */
        private int digitAt(int place) {
            return codeAt(place) - '0';
        }
    }

    /** The houses and guests of the latest text; there are none ahead of the first. */
    private static final class Way {
        final int[] kind;
        final int[] helps;
        final int[] helpsToo;
        final int[] bars;
        final int[] gear;
        int houses;
        int guests;
        int barredByAll;

        Way() {
            kind = new int[MOST_HOUSES];
            helps = new int[MOST_HOUSES];
            helpsToo = new int[MOST_HOUSES];
            bars = new int[MOST_HOUSES];
            gear = new int[MOST_GUESTS];
            houses = 0;
            guests = 0;
            barredByAll = NO_KIND;
        }

        void become(Text told) {
            houses = told.houses;
            guests = told.guests;
            for (int h = 0; h < houses; h++) {
                kind[h] = told.kindOfHouse(h);
                helps[h] = told.digitOfHouse(h, 0);
                helpsToo[h] = told.digitOfHouse(h, 1);
                bars[h] = told.digitOfHouse(h, 2);
            }
            for (int g = 0; g < guests; g++) {
                gear[g] = told.gearOfGuest(g);
            }
        }

        boolean isTold() {
            return houses > 0;
        }

        boolean hasHouse(int h) {
            return isBelow(h, houses);
        }

        boolean hasGuest(int g) {
            return isBelow(g, guests);
        }

        int everyone() {
            return (1 << guests) - 1;
        }

        int gearOf(int party) {
            int together = 0;
            for (int g = 0; g < guests; g++) {
                if ((party & 1 << g) != 0) {
                    together |= gear[g];
                }
            }
            return together;
        }

        /** What is USED, as a set; NONE: the house is not passed. */
        int usedIn(int h, int set, int knows) {
            // barring no kind takes a bit away that no set has
            int useful = set & ~knows & ~(1 << bars[h]) & ~(1 << barredByAll);
            int first = 1 << helps[h];
            int second = 1 << helpsToo[h];
            if (kind[h] == DOUBLE) {
                int both = first | second;
                return (useful & both) == both ? both : NONE;
            }
            if ((useful & first) != 0) {
                return first;
            }
            return (useful & second) != 0 ? second : NONE;
        }

        /** While hosts know nothing. */
        int firstNotPassedBy(int set) {
            for (int h = 0; h < houses; h++) {
                if (usedIn(h, set, 0) == NONE) {
                    return h;
                }
            }
            return NONE;
        }

        int leastGear() {
            int found = NONE;
            int fewest = GEAR_KINDS + 1;
            for (int set = 0; set < GEAR_SETS; set++) {
                int size = Integer.bitCount(set);
                if (size < fewest && firstNotPassedBy(set) == NONE) {
                    found = set;
                    fewest = size;
                }
            }
            return found;
        }
    }

    /** One time of going or visiting: what hosts know so far, who is lost and where. */
    private static final class Walk {
        final Way road;
        final int[] knows;
        final int[] lostIn;
        int through;
        int gone;
        int firstLoss;

        Walk(Way road) {
            this.road = road;
            knows = new int[MOST_HOUSES];
            lostIn = new int[MOST_GUESTS];
            through = 0;
            gone = 0;
            firstLoss = NONE;
        }

        void begin() {
            Arrays.fill(knows, 0);
            Arrays.fill(lostIn, NONE);
            through = 0;
            gone = 0;
            firstLoss = NONE;
        }

        void visit(int number, int party, int h) {
            int left = party & ~gone;
            if (left == 0 || enter(h, road.gearOf(left))) {
                return;
            }
            gone |= left;
            if (firstLoss == NONE) {
                firstLoss = number;
            }
        }

        /** The house in which a party is lost on its way through all; NONE: in none. */
        int send(int party) {
            int set = road.gearOf(party);
            for (int h = 0; h < road.houses; h++) {
                if (!enter(h, set)) {
                    return h;
                }
            }
            return NONE;
        }

        void goAlone(int g) {
            lostIn[g] = send(1 << g);
            if (lostIn[g] == NONE) {
                through |= 1 << g;
            }
        }

        /** All go by numbers: how many come through. */
        int goByNumbers() {
            begin();
            for (int g = 0; g < road.guests; g++) {
                goAlone(g);
            }
            return Integer.bitCount(through);
        }

        private boolean enter(int h, int set) {
            int used = road.usedIn(h, set, knows[h]);
            if (used != NONE && road.kind[h] == LEARNING) {
                knows[h] |= used;
            }
            return used != NONE;
        }
    }

    /** The orders of all guests, from the first as a row to the last. */
    private static final class Orders {
        final int[] row;
        int size;

        Orders() {
            row = new int[MOST_GUESTS];
            size = 0;
        }

        /** Stands at the first order then: how many there are. */
        int begin(int guests) {
            size = guests;
            int count = 1;
            for (int p = 0; p < size; p++) {
                row[p] = p;
                count *= p + 1;
            }
            return count;
        }

        /** The last order stays. */
        void next() {
            int p = lastRise();
            if (p < 0) {
                return;
            }
            swap(p, lastAbove(p));
            int end = size - 1;
            for (int q = p + 1; q < end; q++) {
                swap(q, end);
                end--;
            }
        }

        /** Whether the order, as a row of mates, has each the mate of his mate. */
        boolean isOfMates() {
            for (int p = 0; p < size; p++) {
                if (row[row[p]] != p) {
                    return false;
                }
            }
            return true;
        }

        private int lastRise() {
            for (int p = size - 2; p >= 0; p--) {
                if (row[p] < row[p + 1]) {
                    return p;
                }
            }
            return -1;
        }

        private int lastAbove(int p) {
            for (int q = size - 1; q > p; q--) {
                if (row[q] > row[p]) {
                    return q;
                }
            }
            return p;
        }

        private void swap(int p, int q) {
            int held = row[p];
            row[p] = row[q];
            row[q] = held;
        }
    }

    /** Goes through all orders; the first of several as a row is met first, so only better ones replace it. */
    private static final class Search {
        final Way road;
        final Walk walk;
        final Orders orders;
        final int[] found;
        int most;
        int fewest;
        int good;
        int all;

        Search(Way road, Walk walk) {
            this.road = road;
            this.walk = walk;
            orders = new Orders();
            found = new int[MOST_GUESTS];
            most = 0;
            fewest = 0;
            good = 0;
            all = 0;
        }

        void findBest() {
            most = -1;
            int count = orders.begin(road.guests);
            for (int k = 0; k < count; k++) {
                int come = Integer.bitCount(goInOrder());
                if (come > most) {
                    keep(come);
                }
                orders.next();
            }
        }

        /** A row of mates is an order, too, so these are found among the orders. */
        void findTwos() {
            most = -1;
            fewest = 0;
            int count = orders.begin(road.guests);
            for (int k = 0; k < count; k++) {
                if (orders.isOfMates()) {
                    judgeMates();
                }
                orders.next();
            }
        }

        void countThroughOf(int g) {
            good = 0;
            all = orders.begin(road.guests);
            for (int k = 0; k < all; k++) {
                if ((goInOrder() & 1 << g) != 0) {
                    good++;
                }
                orders.next();
            }
        }

        private int goInOrder() {
            walk.begin();
            for (int p = 0; p < orders.size; p++) {
                walk.goAlone(orders.row[p]);
            }
            return walk.through;
        }

        private void judgeMates() {
            int come = 0;
            int parties = 0;
            walk.begin();
            for (int g = 0; g < orders.size; g++) {
                // the mate with the lesser number leads the party
                if (orders.row[g] >= g) {
                    int party = 1 << g | 1 << orders.row[g];
                    parties++;
                    come += walk.send(party) == NONE ? Integer.bitCount(party) : 0;
                }
            }
            if (come > most || (come == most && parties < fewest)) {
                keep(come);
                fewest = parties;
            }
        }

        private void keep(int come) {
            most = come;
            System.arraycopy(orders.row, 0, found, 0, orders.size);
        }
    }

    /** What would be, if gear were given or barred. */
    private static final class Trials {
        final Way road;
        final Walk walk;
        int found;
        int come;

        Trials(Way road, Walk walk) {
            this.road = road;
            this.walk = walk;
            found = NONE;
            come = 0;
        }

        /** To give one what he has changes nothing, so that is never more than now. */
        void findGift() {
            found = NONE;
            come = walk.goByNumbers();
            for (int g = 0; g < road.guests; g++) {
                int own = road.gear[g];
                for (int kind = 0; kind < GEAR_KINDS; kind++) {
                    road.gear[g] = own | 1 << kind;
                    int then = walk.goByNumbers();
                    if (then > come) {
                        come = then;
                        found = 10 * g + kind;
                    }
                }
                road.gear[g] = own;
            }
        }

        void findWorst() {
            found = NONE;
            come = MOST_GUESTS + 1;
            for (int kind = 0; kind < GEAR_KINDS; kind++) {
                road.barredByAll = kind;
                int then = walk.goByNumbers();
                if (then < come) {
                    come = then;
                    found = kind;
                }
            }
            road.barredByAll = NO_KIND;
        }
    }

    /** What was seen as all went by numbers, and what fits it. */
    private static final class Readings {
        final Way road;
        final Walk walk;
        final int[] guest;
        final int[] house;
        int count;
        int fitting;
        int leastFitting;

        Readings(Way road, Walk walk) {
            this.road = road;
            this.walk = walk;
            guest = new int[MOST_READINGS];
            house = new int[MOST_READINGS];
            count = 0;
            fitting = 0;
            leastFitting = NONE;
        }

        boolean isFull() {
            return count >= MOST_READINGS;
        }

        int add(int g, int h) {
            guest[count] = g;
            house[count] = h;
            count++;
            return count - 1;
        }

        void findHad(int g) {
            int own = road.gear[g];
            fitting = 0;
            leastFitting = NONE;
            for (int set = 0; set < GEAR_SETS; set++) {
                road.gear[g] = set;
                walk.goByNumbers();
                if (allAreSo()) {
                    fitting++;
                    leastFitting = leastFitting == NONE ? set : leastFitting;
                }
            }
            road.gear[g] = own;
        }

        int kindsOf(int h) {
            int own = road.kind[h];
            int fit = 0;
            for (int kind = 0; kind < HOUSE_KINDS; kind++) {
                road.kind[h] = kind;
                walk.goByNumbers();
                fit |= allAreSo() ? 1 << kind : 0;
            }
            road.kind[h] = own;
            return fit;
        }

        /** By the walk that was gone last. */
        private boolean allAreSo() {
            for (int r = 0; r < count; r++) {
                if (walk.lostIn[guest[r]] != house[r]) {
                    return false;
                }
            }
            return true;
        }
    }
}
