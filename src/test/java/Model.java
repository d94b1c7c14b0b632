import java.util.ArrayList;
import java.util.Arrays;
import java.util.List;
import java.util.regex.Matcher;
import java.util.regex.Pattern;

/**
 * The document once more, written another way: with the machine's own faults, real rows, sets of guests,
 * classes for kinds, and every choice tried by counting. The program's answers are held against it.
 */
final class Model {
    private static final int UNKNOWN = -1, OUTSIDE = -2, STATE = -3, FULL = -4, NONE = -9;
    private static final Pattern TEXT =
        Pattern.compile("x(;[hdl][0-5][0-5][0-6]){1,6}(,([0-5][0-9]|6[0-3])){1,5}");

    private static int trace;

    static class House {
        int number, helps, too, bars;
        List<Integer> known = new ArrayList<>();

        List<Integer> useful(List<Integer> has, List<Integer> alsoBarred) {
            List<Integer> useful = new ArrayList<>(has);
            useful.removeAll(known);
            useful.removeAll(alsoBarred);
            useful.removeAll(List.of(bars));
            return useful;
        }

        List<Integer> used(List<Integer> has, List<Integer> alsoBarred) {
            for (int help : new int[] {helps, too}) {
                if (useful(has, alsoBarred).contains(help)) {
                    return List.of(help);
                }
            }
            return null;
        }

        void learn(List<Integer> used) {
        }

        int told() {
            return plainly();
        }

        final int plainly() {
            leave(1);
            return bars;
        }

        int knocked() {
            leave(4);
            return number;
        }

        int kind() {
            return 0;
        }
    }

    static class DoubleHouse extends House {
        @Override List<Integer> used(List<Integer> has, List<Integer> alsoBarred) {
            List<Integer> both = List.of(helps, too);
            return useful(has, alsoBarred).containsAll(both) ? both : null;
        }

        @Override int told() {
            leave(2);
            return super.told() + 100;
        }

        @Override int kind() {
            return 1;
        }
    }

    static class LearningHouse extends DoubleHouse {
        @Override List<Integer> used(List<Integer> has, List<Integer> alsoBarred) {
            House plain = make(0, this);
            plain.known = known;
            return plain.used(has, alsoBarred);
        }

        @Override void learn(List<Integer> used) {
            known.addAll(used);
        }

        @Override int told() {
            leave(3);
            return super.told() + plainly();
        }

        @Override int knocked() {
            leave(5);
            return 80;
        }

        @Override int kind() {
            return 2;
        }
    }

    private static void leave(int number) {
        trace = trace * 31 + number;
    }

    static House make(int kind, House like) {
        House made = kind == 0 ? new House() : kind == 1 ? new DoubleHouse() : new LearningHouse();
        made.number = like.number;
        made.helps = like.helps;
        made.too = like.too;
        made.bars = like.bars;
        return made;
    }

    private static List<Integer> members(int set) {
        List<Integer> list = new ArrayList<>();
        for (int k = 0; k < 32; k++) {
            if ((set >>> k & 1) == 1) {
                list.add(k);
            }
        }
        return list;
    }

    private static int set(List<Integer> members) {
        int set = 0;
        for (int k : members) {
            set |= 1 << k;
        }
        return set;
    }

    private List<House> houses = new ArrayList<>();
    private List<Integer> guests = new ArrayList<>();
    private final List<int[]> readings = new ArrayList<>();
    private List<Integer> alsoBarred = List.of();
    private final Object[] sheets = new Object[4];
    private int fault = 0;
    private int ownTrace = 0;

    // ---- going

    private boolean passed(House house, List<Integer> party) {
        List<Integer> has = new ArrayList<>();
        for (int g : party) {
            has.addAll(members(guests.get(g)));
        }
        List<Integer> used = house.used(has, alsoBarred);
        if (used != null) {
            house.learn(used);
        }
        return used != null;
    }

    private void forget() {
        for (House house : houses) {
            house.known = new ArrayList<>();
        }
    }

    private int lostIn(List<Integer> party) {
        for (House house : houses) {
            if (!passed(house, party)) {
                return house.number;
            }
        }
        return NONE;
    }

    /** Where each guest was lost: 99 for those who did not go. */
    private int[] go(List<Integer> order) {
        forget();
        int[] lost = new int[guests.size()];
        Arrays.fill(lost, 99);
        for (int g : order) {
            lost[g] = lostIn(List.of(g));
        }
        forget();
        return lost;
    }

    private static int throughOf(int[] lost) {
        int count = 0;
        for (int h : lost) {
            count += h == NONE ? 1 : 0;
        }
        return count;
    }

    private List<Integer> byNumbers() {
        return members((1 << guests.size()) - 1);
    }

    /** All rows of as many guests as there are, each of 0 .. that many less 1, by rows. */
    private List<List<Integer>> rows() {
        List<List<Integer>> rows = new ArrayList<>();
        rows.add(List.of());
        for (int p = 0; p < guests.size(); p++) {
            List<List<Integer>> longer = new ArrayList<>();
            for (List<Integer> row : rows) {
                for (int g = 0; g < guests.size(); g++) {
                    List<Integer> next = new ArrayList<>(row);
                    next.add(g);
                    longer.add(next);
                }
            }
            rows = longer;
        }
        return rows;
    }

    private List<List<Integer>> orders() {
        List<List<Integer>> orders = new ArrayList<>();
        for (List<Integer> row : rows()) {
            if (row.containsAll(byNumbers())) {
                orders.add(row);
            }
        }
        return orders;
    }

    // ---- rows of lanes, by the machine's own faults

    private static int laneOf(Object row) {
        return row instanceof byte[] ? 0 : row instanceof short[] ? 1 : 2;
    }

    private static int lengthOf(Object row) {
        return java.lang.reflect.Array.getLength(row);
    }

    private static int at(Object row, int i) {
        return row instanceof byte[] b ? b[i] : row instanceof short[] s ? s[i] : ((int[]) row)[i];
    }

    private static Object castTo(Object row, int lane) {
        return lane == 0 ? (Object) (byte[]) row : lane == 1 ? (Object) (short[]) row : (Object) (int[]) row;
    }

    private static int[] taken(Object row, int lane, int i, int n) {
        Object cast = castTo(row, lane);
        int length = lengthOf(cast);
        int[] cells = new int[Math.min(n, 60)];
        if (i < 0 || i > length || (long) i + n > length) {
            throw new ArrayIndexOutOfBoundsException();
        }
        for (int k = 0; k < n; k++) {
            cells[k] = at(cast, i + k);
        }
        return cells;
    }

    private int faultOf(RuntimeException e) {
        fault = e instanceof NullPointerException ? 1
            : e instanceof ClassCastException || e instanceof ArrayStoreException ? 2
            : e instanceof NegativeArraySizeException ? 4 : 3;
        return -10 - fault;
    }

    private static boolean in(int v, int low, int high) {
        return v >= low && v <= high;
    }

    private boolean noSheet(int k) {
        return !in(k, 0, 3);
    }

    private boolean noHouse(int h) {
        return !in(h, 0, houses.size() - 1);
    }

    private boolean noGuest(int g) {
        return !in(g, 0, guests.size() - 1);
    }

    // ---- the calls

    int way(int sheet, int lane, int i, int n) {
        fault = 0;
        if (noSheet(sheet)) {
            return UNKNOWN;
        }
        if (!in(lane, 0, 2)) {
            return OUTSIDE;
        }
        int[] codes;
        try {
            codes = taken(sheets[sheet], lane, i, n);
        } catch (RuntimeException e) {
            return faultOf(e);
        }
        StringBuilder text = new StringBuilder();
        for (int code : codes) {
            text.append(in(code, 1, 127) ? (char) code : '?');
        }
        for (int p = 0; p < n; p++) {
            Matcher m = TEXT.matcher(text.substring(0, p + 1));
            if (!m.matches() && !m.hitEnd()) {
                return -100 - p;
            }
        }
        if (!TEXT.matcher(text).matches()) {
            return -100 - n;
        }
        take(text.toString());
        return houses.size();
    }

    private void take(String text) {
        houses = new ArrayList<>();
        guests = new ArrayList<>();
        readings.clear();
        String[] parts = text.split(",");
        for (String told : parts[0].substring(2).split(";")) {
            House like = new House();
            like.number = houses.size();
            like.helps = told.charAt(1) - '0';
            like.too = told.charAt(2) - '0';
            like.bars = told.charAt(3) - '0';
            houses.add(make("hdl".indexOf(told.charAt(0)), like));
        }
        for (int g = 1; g < parts.length; g++) {
            guests.add(Integer.parseInt(parts[g]));
        }
    }

    int ofHouse(int h, int what) {
        if (noHouse(h)) {
            return UNKNOWN;
        }
        House house = houses.get(h);
        return in(what, 0, 3) ? new int[] {house.kind(), house.helps, house.too, house.bars}[what] : OUTSIDE;
    }

    int gear(int g) {
        return noGuest(g) ? UNKNOWN : guests.get(g);
    }

    int give(int g, int set) {
        return noGuest(g) ? UNKNOWN : in(set, 0, 63) ? guests.set(g, set) : OUTSIDE;
    }

    int bar(int h, int kind) {
        if (noHouse(h)) {
            return UNKNOWN;
        }
        if (!in(kind, 0, 6)) {
            return OUTSIDE;
        }
        int was = houses.get(h).bars;
        houses.get(h).bars = kind;
        return was;
    }

    int passes(int h, int set, int knows) {
        if (noHouse(h)) {
            return UNKNOWN;
        }
        if (!in(set, 0, 63) || !in(knows, 0, 63)) {
            return OUTSIDE;
        }
        houses.get(h).known = members(knows);
        List<Integer> used = houses.get(h).used(members(set), List.of());
        forget();
        return used == null ? NONE : set(used);
    }

    int visits(int sheet, int lane, int i, int n, int what) {
        fault = 0;
        if (noSheet(sheet)) {
            return UNKNOWN;
        }
        if (!in(lane, 0, 2) || !in(n, 0, 20) || !(in(what, 0, 1) || in(what, 10, 15))) {
            return OUTSIDE;
        }
        int[] cells;
        try {
            cells = taken(sheets[sheet], lane, i, 2 * n);
        } catch (RuntimeException e) {
            return faultOf(e);
        }
        if (houses.isEmpty()) {
            return STATE;
        }
        for (int k = 0; k < n; k++) {
            if (!in(cells[2 * k], 0, (1 << guests.size()) - 1)) {
                return OUTSIDE;
            }
            if (noHouse(cells[2 * k + 1])) {
                return UNKNOWN;
            }
        }
        return visit(cells, what);
    }

    private int visit(int[] cells, int what) {
        forget();
        List<Integer> lost = new ArrayList<>();
        int first = NONE;
        for (int k = 0; k < cells.length; k += 2) {
            List<Integer> party = members(cells[k]);
            party.removeAll(lost);
            if (!party.isEmpty() && !passed(houses.get(cells[k + 1]), party)) {
                lost.addAll(party);
                first = first == NONE ? k / 2 : first;
            }
        }
        int known = what < 10 || noHouse(what - 10) ? NONE : set(houses.get(what - 10).known);
        forget();
        return what == 0 ? set(lost) : what == 1 ? first : known;
    }

    int going(int sheet, int lane, int i, int n, int what) {
        fault = 0;
        if (noSheet(sheet)) {
            return UNKNOWN;
        }
        if (!in(lane, 0, 2) || !(what == 0 || in(what, 10, 14))) {
            return OUTSIDE;
        }
        int[] cells;
        try {
            cells = taken(sheets[sheet], lane, i, n);
        } catch (RuntimeException e) {
            return faultOf(e);
        }
        if (houses.isEmpty()) {
            return STATE;
        }
        List<Integer> order = new ArrayList<>();
        for (int g : cells) {
            if (noGuest(g) || order.contains(g)) {
                return UNKNOWN;
            }
            order.add(g);
        }
        int[] lost = go(order);
        List<Integer> through = new ArrayList<>();
        for (int g = 0; g < lost.length; g++) {
            if (lost[g] == NONE) {
                through.add(g);
            }
        }
        int asked = noGuest(what - 10) ? NONE : lost[what - 10];
        return what == 0 ? set(through) : asked == 99 ? NONE : asked;
    }

    private boolean allPassedBy(int set) {
        forget();
        for (House house : houses) {
            if (house.used(members(set), List.of()) == null) {
                return false;
            }
        }
        return true;
    }

    int least() {
        if (houses.isEmpty()) {
            return STATE;
        }
        for (int size = 0; size <= 6; size++) {
            for (int set = 0; set < 64; set++) {
                if (members(set).size() == size && allPassedBy(set)) {
                    return set;
                }
            }
        }
        return NONE;
    }

    int hard() {
        if (houses.isEmpty()) {
            return STATE;
        }
        for (House house : houses) {
            if (house.used(members(63), List.of()) == null) {
                return house.number;
            }
        }
        return NONE;
    }

    int best(int k) {
        if (k < -1) {
            return UNKNOWN;
        }
        if (houses.isEmpty()) {
            return STATE;
        }
        for (int most = guests.size(); ; most--) {
            for (List<Integer> order : orders()) {
                if (throughOf(go(order)) == most) {
                    return k == -1 ? most : k < order.size() ? order.get(k) : NONE;
                }
            }
        }
    }

    /** 100 for each who comes through, less 1 for each party. */
    private int worthOfMates(List<Integer> mates) {
        int worth = 0;
        forget();
        List<Integer> gone = new ArrayList<>();
        for (int g = 0; g < mates.size(); g++) {
            if (gone.contains(g)) {
                continue;
            }
            int mate = mates.get(g);
            List<Integer> party = mate == g ? List.of(g) : List.of(g, mate);
            gone.addAll(party);
            worth += lostIn(party) == NONE ? 100 * party.size() - 1 : -1;
        }
        forget();
        return worth;
    }

    int twos(int g) {
        if (g != -1 && noGuest(g)) {
            return UNKNOWN;
        }
        if (houses.isEmpty()) {
            return STATE;
        }
        int top = Integer.MIN_VALUE;
        List<Integer> found = null;
        for (List<Integer> row : rows()) {
            boolean mates = true;
            for (int p = 0; p < row.size(); p++) {
                mates = mates && row.get(row.get(p)) == p;
            }
            if (mates && worthOfMates(row) > top) {
                top = worthOfMates(row);
                found = row;
            }
        }
        return g == -1 ? Math.floorDiv(top + 99, 100) : found.get(g);
    }

    int gift(int what) {
        if (!in(what, 0, 1)) {
            return OUTSIDE;
        }
        if (houses.isEmpty()) {
            return STATE;
        }
        int now = throughOf(go(byNumbers()));
        int most = now;
        int found = NONE;
        for (int g = 0; g < guests.size(); g++) {
            for (int kind = 0; kind < 6; kind++) {
                List<Integer> own = guests;
                if (members(own.get(g)).contains(kind)) {
                    continue;
                }
                guests = new ArrayList<>(own);
                guests.set(g, own.get(g) + (1 << kind));
                int then = throughOf(go(byNumbers()));
                guests = own;
                if (then > most) {
                    most = then;
                    found = 10 * g + kind;
                }
            }
        }
        return what == 0 ? found : most;
    }

    int worst(int what) {
        if (!in(what, 0, 1)) {
            return OUTSIDE;
        }
        if (houses.isEmpty()) {
            return STATE;
        }
        int[] come = new int[6];
        int least = 99;
        for (int kind = 0; kind < 6; kind++) {
            alsoBarred = List.of(kind);
            come[kind] = throughOf(go(byNumbers()));
            least = Math.min(least, come[kind]);
        }
        alsoBarred = List.of();
        for (int kind = 0; ; kind++) {
            if (come[kind] == least) {
                return what == 0 ? kind : least;
            }
        }
    }

    int reading(int g, int h) {
        if (noGuest(g) || h != NONE && noHouse(h)) {
            return UNKNOWN;
        }
        if (readings.size() == 8) {
            return FULL;
        }
        readings.add(new int[] {g, h});
        return readings.size() - 1;
    }

    int back(int k) {
        if (!in(k, 0, readings.size())) {
            return OUTSIDE;
        }
        for (int r = 0; r < k; r++) {
            readings.remove(readings.size() - 1);
        }
        return readings.size();
    }

    private boolean fits() {
        int[] lost = go(byNumbers());
        for (int[] reading : readings) {
            if (lost[reading[0]] != reading[1]) {
                return false;
            }
        }
        return true;
    }

    int had(int g, int what) {
        if (noGuest(g)) {
            return UNKNOWN;
        }
        if (!in(what, 0, 1)) {
            return OUTSIDE;
        }
        List<Integer> own = guests;
        List<Integer> fit = new ArrayList<>();
        for (int set = 0; set < 64; set++) {
            guests = new ArrayList<>(own);
            guests.set(g, set);
            if (fits()) {
                fit.add(set);
            }
        }
        guests = own;
        return what == 0 ? fit.size() : fit.isEmpty() ? NONE : fit.get(0);
    }

    int kinds(int h) {
        if (noHouse(h)) {
            return UNKNOWN;
        }
        List<House> own = houses;
        List<Integer> fit = new ArrayList<>();
        for (int kind = 0; kind < 3; kind++) {
            houses = new ArrayList<>(own);
            houses.set(h, make(kind, own.get(h)));
            if (fits()) {
                fit.add(kind);
            }
        }
        houses = own;
        return set(fit);
    }

    long odds(int g, int which) {
        if (noGuest(g) || !in(which, 0, 1)) {
            return Long.MIN_VALUE;
        }
        int good = 0;
        int all = 0;
        for (List<Integer> order : orders()) {
            good += go(order)[g] == NONE ? 1 : 0;
            all++;
        }
        int divisor = java.math.BigInteger.valueOf(good).gcd(java.math.BigInteger.valueOf(all)).intValue();
        return (which == 0 ? good : all) / divisor;
    }

    int sheet(int k, int lane, int n) {
        fault = 0;
        if (noSheet(k)) {
            return UNKNOWN;
        }
        if (!in(lane, 0, 2) || n > 60) {
            return OUTSIDE;
        }
        try {
            sheets[k] = lane == 0 ? new byte[n] : lane == 1 ? new short[n] : (Object) new int[n];
        } catch (RuntimeException e) {
            return faultOf(e);
        }
        return 1;
    }

    int lose(int k) {
        if (noSheet(k)) {
            return UNKNOWN;
        }
        int had = sheets[k] == null ? 0 : 1;
        sheets[k] = null;
        return had;
    }

    int put(int k, int i, int v) {
        fault = 0;
        if (noSheet(k)) {
            return UNKNOWN;
        }
        try {
            switch (laneOf(sheets[k])) {
                case 0 -> ((byte[]) sheets[k])[i] = (byte) v;
                case 1 -> ((short[]) sheets[k])[i] = (short) v;
                default -> ((int[]) sheets[k])[i] = v;
            }
        } catch (RuntimeException e) {
            return faultOf(e);
        }
        return 1;
    }

    long cell(int k, int i, int lane) {
        fault = 0;
        if (noSheet(k) || !in(lane, 0, 2)) {
            return Long.MIN_VALUE;
        }
        try {
            return at(castTo(sheets[k], lane), i);
        } catch (RuntimeException e) {
            faultOf(e);
            return Long.MIN_VALUE;
        }
    }

    int copy(int k, int i, int other, int j, int n) {
        fault = 0;
        if (noSheet(k) || noSheet(other)) {
            return UNKNOWN;
        }
        try {
            System.arraycopy(sheets[k], i, sheets[other], j, n);
        } catch (RuntimeException e) {
            return faultOf(e);
        }
        return n;
    }

    int tell(int h) {
        if (noHouse(h)) {
            return UNKNOWN;
        }
        trace = ownTrace;
        int told = houses.get(h).told();
        ownTrace = trace;
        return told;
    }

    int knock(int h) {
        if (noHouse(h)) {
            return UNKNOWN;
        }
        trace = ownTrace;
        int knocked = houses.get(h).knocked();
        ownTrace = trace;
        return knocked;
    }

    int as(int h, int kind) {
        fault = 0;
        if (noHouse(h)) {
            return UNKNOWN;
        }
        if (!in(kind, 0, 2)) {
            return OUTSIDE;
        }
        try {
            List.of(House.class, DoubleHouse.class, LearningHouse.class).get(kind).cast(houses.get(h));
        } catch (RuntimeException e) {
            return faultOf(e);
        }
        return 1;
    }

    int trace() {
        return ownTrace;
    }

    int fault() {
        return fault;
    }

    int many(int what) {
        return in(what, 0, 2) ? new int[] {houses.size(), guests.size(), readings.size()}[what] : OUTSIDE;
    }
}
