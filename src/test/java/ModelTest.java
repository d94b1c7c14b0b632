import java.util.Random;

/** Runs of drawn calls (the same in each run of the test), answered by the program and by the model alike. */
public final class ModelTest {
    private static final int RUNS = 400;
    private static final int CALLS = 512;

    private final Random random;
    private final TrickHouses x = new TrickHouses();
    private final Model model = new Model();
    private final Due due;
    private final int run;
    private int left = CALLS;

    private ModelTest(int run, Due due) {
        this.run = run;
        this.due = due;
        random = new Random(7919L * run + 1);
    }

    public static void main(String[] args) {
        Due due = new Due("ModelTest");
        for (int run = 0; run < RUNS; run++) {
            new ModelTest(run, due).go();
        }
        due.end();
    }

    private void same(String call, long got, long want) {
        due.is("run " + run + ": " + call, got, want);
        left--;
    }

    private void go() {
        if (random.nextInt(8) != 0) {
            layText(goodText());
        }
        while (left > 120) {
            switch (random.nextInt(12)) {
                case 0 -> sheets();
                case 1, 2, 3 -> rowCalls();
                case 4, 5 -> searches();
                case 6, 7 -> seen();
                case 8 -> houses();
                case 9 -> changes();
                case 10 -> again();
                default -> wild();
            }
        }
    }

    private int pick(int... of) {
        return of[random.nextInt(of.length)];
    }

    /** A number from low to high, now and then one beside or far away. */
    private int near(int low, int high) {
        int v = low + random.nextInt(high - low + 1);
        return random.nextInt(12) != 0 ? v : pick(low - 1, high + 1, -9, Integer.MIN_VALUE, Integer.MAX_VALUE);
    }

    private int house() {
        return near(0, Math.max(0, model.many(0) - 1));
    }

    private int guest() {
        return near(0, Math.max(0, model.many(1) - 1));
    }

    private String goodText() {
        StringBuilder text = new StringBuilder("x");
        int kinds = 2 + random.nextInt(5);
        int houses = 1 + random.nextInt(random.nextBoolean() ? 3 : 6);
        for (int h = 0; h < houses; h++) {
            text.append(';').append("hdllll".charAt(random.nextInt(6)));
            text.append(random.nextInt(kinds)).append(random.nextInt(kinds));
            text.append(random.nextBoolean() ? 6 : random.nextInt(7));
        }
        int guests = 1 + random.nextInt(5);
        for (int g = 0; g < guests; g++) {
            int gear = random.nextInt(64) | (random.nextBoolean() ? random.nextInt(64) : 0);
            text.append(',').append(gear / 10).append(gear % 10);
        }
        return text.toString();
    }

    private String brokenText() {
        StringBuilder text = new StringBuilder(goodText());
        int p = random.nextInt(text.length());
        char code = "x;,hdl0123456789: /y".charAt(random.nextInt(20));
        switch (random.nextInt(4)) {
            case 0 -> text.setCharAt(p, code);
            case 1 -> text.insert(p, code);
            case 2 -> text.deleteCharAt(p);
            default -> text.setLength(p);
        }
        return text.toString();
    }

    private void layText(String text) {
        if (left < 60 || text.length() > 60) {
            return;
        }
        int lane = random.nextInt(3);
        int start = random.nextInt(Math.min(3, 61 - text.length()));
        makeSheet(0, lane, start + text.length());
        for (int p = 0; p < text.length(); p++) {
            put(0, start + p, text.charAt(p));
        }
        way(0, lane, start, text.length());
    }

    private void makeSheet(int k, int lane, int n) {
        same("sheet(" + k + ", " + lane + ", " + n + ")", x.sheet(k, lane, n), model.sheet(k, lane, n));
    }

    private void put(int k, int i, int v) {
        same("put(" + k + ", " + i + ", " + v + ")", x.put(k, i, v), model.put(k, i, v));
    }

    private void way(int k, int lane, int i, int n) {
        same("way(" + k + ", " + lane + ", " + i + ", " + n + ")", x.way(k, lane, i, n), model.way(k, lane, i, n));
        fault();
    }

    private void fault() {
        same("fault()", x.fault(), model.fault());
    }

    private void sheets() {
        int k = near(0, 3);
        int other = near(0, 3);
        int i = near(0, 8);
        int j = near(0, 8);
        int n = near(0, 6);
        int lane = near(0, 2);
        switch (random.nextInt(5)) {
            case 0 -> makeSheet(k, lane, pick(n, n, n, 60, 61));
            case 1 -> put(k, i, random.nextInt());
            case 2 -> same("copy(" + k + ", " + i + ", " + other + ", " + j + ", " + n + ")",
                x.copy(k, i, other, j, n), model.copy(k, i, other, j, n));
            case 3 -> same("lose(" + k + ")", x.lose(k), model.lose(k));
            default -> {
                for (int p = 0; p < 8; p++) {
                    same("cell(" + k + ", " + p + ", " + lane + ")", x.cell(k, p, lane), model.cell(k, p, lane));
                }
            }
        }
        fault();
    }

    private void rowCalls() {
        boolean visits = random.nextBoolean();
        int lane = random.nextInt(3);
        int n = random.nextInt(6);
        int start = random.nextInt(2);
        int length = start + (visits ? 2 * n : n);
        makeSheet(1, lane, length);
        int all = (1 << model.many(1)) - 1;
        boolean odd = random.nextInt(10) == 0;
        int turn = random.nextInt(5);
        for (int p = start; p < length; p++) {
            int party = random.nextInt(all + 1);
            int order = (p - start + turn) % Math.max(1, model.many(1));
            put(1, p, odd ? near(0, 31) : visits ? ((p - start) % 2 == 0 ? party : house()) : order);
        }
        for (int c = 0; c < 4; c++) {
            int asLane = random.nextInt(10) == 0 ? near(0, 2) : lane;
            int what = random.nextInt(10) == 0 ? near(0, 15) : pick(0, 0, 1, 10, 11, 12, 13, 14, 15);
            int count = random.nextInt(10) == 0 ? near(0, 22) : n;
            int from = random.nextInt(10) == 0 ? near(0, length) : start;
            int sheet = random.nextInt(15) == 0 ? near(0, 3) : 1;
            String call = "(" + sheet + ", " + asLane + ", " + from + ", " + count + ", " + what + ")";
            if (visits) {
                same("visits" + call, x.visits(sheet, asLane, from, count, what),
                    model.visits(sheet, asLane, from, count, what));
            } else {
                same("going" + call, x.going(sheet, asLane, from, count, what),
                    model.going(sheet, asLane, from, count, what));
            }
            fault();
        }
    }

    private void searches() {
        int k = random.nextInt(2) == 0 ? -1 : near(0, 5);
        int g = random.nextInt(2) == 0 ? -1 : guest();
        int what = near(0, 1);
        switch (random.nextInt(6)) {
            case 0 -> same("least()", x.least(), model.least());
            case 1 -> same("hard()", x.hard(), model.hard());
            case 2 -> same("best(" + k + ")", x.best(k), model.best(k));
            case 3 -> same("twos(" + g + ")", x.twos(g), model.twos(g));
            case 4 -> same("gift(" + what + ")", x.gift(what), model.gift(what));
            default -> same("worst(" + what + ")", x.worst(what), model.worst(what));
        }
    }

    private void seen() {
        int g = guest();
        int h = random.nextInt(3) == 0 ? -9 : house();
        int what = near(0, 1);
        switch (random.nextInt(7)) {
            case 0, 1 -> same("reading(" + g + ", " + h + ")", x.reading(g, h), model.reading(g, h));
            case 2 -> {
                int k = near(0, Math.max(1, model.many(2)));
                same("back(" + k + ")", x.back(k), model.back(k));
            }
            case 3 -> same("had(" + g + ", " + what + ")", x.had(g, what), model.had(g, what));
            case 4 -> {
                int of = house();
                same("kinds(" + of + ")", x.kinds(of), model.kinds(of));
            }
            case 5 -> same("odds(" + g + ", " + what + ")", x.odds(g, what), model.odds(g, what));
            default -> trueReading();
        }
    }

    /** One that fits what is, so that readings do not clash at once. */
    private void trueReading() {
        int guests = model.many(1);
        if (guests == 0) {
            return;
        }
        makeSheet(2, 0, guests);
        for (int g = 0; g < guests; g++) {
            put(2, g, g);
        }
        int g = random.nextInt(guests);
        int h = model.going(2, 0, 0, guests, 10 + g);
        same("going of " + g, x.going(2, 0, 0, guests, 10 + g), h);
        same("reading(" + g + ", " + h + ")", x.reading(g, h), model.reading(g, h));
        same("had(" + g + ", 0)", x.had(g, 0), model.had(g, 0));
        same("had(" + g + ", 1)", x.had(g, 1), model.had(g, 1));
        int of = house();
        same("kinds(" + of + ")", x.kinds(of), model.kinds(of));
    }

    private void houses() {
        int h = house();
        int what = near(0, 3);
        int kind = near(0, 2);
        int set = near(0, 63);
        int knows = random.nextBoolean() ? 0 : near(0, 63);
        same("ofHouse(" + h + ", " + what + ")", x.ofHouse(h, what), model.ofHouse(h, what));
        same("passes(" + h + ", " + set + ", " + knows + ")", x.passes(h, set, knows), model.passes(h, set, knows));
        same("tell(" + h + ")", x.tell(h), model.tell(h));
        same("trace()", x.trace(), model.trace());
        same("knock(" + h + ")", x.knock(h), model.knock(h));
        same("trace()", x.trace(), model.trace());
        same("as(" + h + ", " + kind + ")", x.as(h, kind), model.as(h, kind));
        fault();
    }

    private void changes() {
        int g = guest();
        int set = near(0, 63);
        int h = house();
        int kind = near(0, 6);
        if (random.nextBoolean()) {
            same("give(" + g + ", " + set + ")", x.give(g, set), model.give(g, set));
        } else {
            same("bar(" + h + ", " + kind + ")", x.bar(h, kind), model.bar(h, kind));
        }
    }

    private void again() {
        switch (random.nextInt(8)) {
            case 0, 1 -> layText(brokenText());
            case 2 -> layText(goodText());
            default -> {
            }
        }
        for (int what = -1; what < 4; what++) {
            same("many(" + what + ")", x.many(what), model.many(what));
        }
        for (int g = 0; g < 6; g++) {
            same("gear(" + g + ")", x.gear(g), model.gear(g));
        }
    }

    private void wild() {
        int a = near(-2, 5);
        int b = near(-2, 5);
        int c = near(-2, 5);
        int d = near(-2, 5);
        int e = near(-2, 5);
        String call = "(" + a + ", " + b + ", " + c + ", " + d + ", " + e + ")";
        switch (random.nextInt(8)) {
            case 0 -> same("copy" + call, x.copy(a, b, c, d, e), model.copy(a, b, c, d, e));
            case 1 -> same("visits" + call, x.visits(a, b, c, d, e), model.visits(a, b, c, d, e));
            case 2 -> same("going" + call, x.going(a, b, c, d, e), model.going(a, b, c, d, e));
            case 3 -> same("way" + call, x.way(a, b, c, d), model.way(a, b, c, d));
            case 4 -> same("cell" + call, x.cell(a, b, c), model.cell(a, b, c));
            case 5 -> same("put" + call, x.put(a, b, c), model.put(a, b, c));
            case 6 -> same("as" + call, x.as(a, b), model.as(a, b));
            default -> same("sheet" + call, x.sheet(a, b, c), model.sheet(a, b, c));
        }
        fault();
    }
}
