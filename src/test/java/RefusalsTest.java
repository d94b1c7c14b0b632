import java.util.Set;

/**
 * Terms, REFUSALS and FAULTS: each refusal and each fault that a call's line tells, at its bounds, and ahead of
 * those told behind it. Each row is called on a new object: the answer is due, fault() is due (of a call that
 * names no FAULTS it stays), and nothing else is changed.
 */
public final class RefusalsTest {
    private static final Due due = new Due("RefusalsTest");
    private static final int MIN = Integer.MIN_VALUE, MAX = Integer.MAX_VALUE;
    private static final int UNKNOWN = -1, OUTSIDE = -2, STATE = -3, FULL = -4, NONE = -9;
    private static final int NULL = 1, CAST = 2, INDEX = 3, SIZE = 4;
    private static final Set<String> NAMING = Set.of("way", "visits", "going", "sheet", "put", "cell", "copy", "as");
    private static final Set<String> OF_LONGS = Set.of("cell", "odds");
    private static final String TEXT = "x;h013;d246;l056,03,21,63";

    /** What the object has when a row is called on it. */
    private enum Has { SHEETS, WAY, EIGHT_READINGS }

    private static Has has = Has.WAY;

    public static void main(String[] args) {
        way();
        wayOfNoText();
        ofHouse();
        gearAndGive();
        bar();
        passes();
        visits();
        visitsPairByPair();
        visitsWithoutAWay();
        going();
        goingOfNoGuests();
        goingWithoutAWay();
        searches();
        searchesWithoutAWay();
        readings();
        hadKindsOdds();
        seenWithoutAWay();
        sheetAndLose();
        putAndCell();
        copy();
        copyIndex();
        tellKnockAsMany();
        partsWithoutAWay();
        questionsChangeNothing();
        due.end();
    }

    /** Sheet 0: bytes, the text; sheet 1: shorts; sheet 2: ints; sheet 3: nothing. All is unlike what a text makes. */
    private static TrickHouses made() {
        TrickHouses x = new TrickHouses();
        Due.lay(x, 0, 0, TEXT);
        Due.fill(x, 1, 1, 7, -8, 9);
        Due.fill(x, 2, 2, 7, 0, 7, 2, 0, 1, 2);
        if (has == Has.SHEETS) {
            return x;
        }
        x.way(0, 0, 0, TEXT.length());
        x.bar(0, 4);
        x.give(1, 20);
        x.tell(2);
        x.reading(0, 1);
        x.reading(2, NONE);
        for (int r = 2; has == Has.EIGHT_READINGS && r < 8; r++) {
            x.reading(0, 1);
        }
        return x;
    }

    private static void idle(long answer, int fault, String name, int... args) {
        TrickHouses x = made();
        String before = Snapshot.of(x);
        // another fault than the one that is due, so that it is seen to change
        int earlier = fault == NULL ? SIZE : NULL;
        if (earlier == NULL) {
            x.put(3, 0, 0);
        } else {
            x.sheet(3, 0, -1);
        }
        String call = Call.told(name, args) + " with " + has;
        due.is(call, Call.on(x, name, args), answer);
        due.is("fault() behind " + call, x.fault(), NAMING.contains(name) ? fault : earlier);
        String after = Snapshot.of(x);
        due.holds(call + " changes nothing:\n" + before + "\n to\n" + after, after.equals(before));
    }

    private static void answers(long answer, String name, int... args) {
        idle(answer, 0, name, args);
    }

    private static void refused(int answer, String name, int... args) {
        idle(OF_LONGS.contains(name) ? Due.LOST : answer, 0, name, args);
    }

    private static void faulty(int fault, String name, int... args) {
        idle(OF_LONGS.contains(name) ? Due.LOST : -10 - fault, fault, name, args);
    }

    /** Each of the numbers in turn stands at a place of the row. */
    private static void refusedEach(int answer, String name, int[] row, int place, int... numbers) {
        for (int number : numbers) {
            int[] args = row.clone();
            args[place] = number;
            refused(answer, name, args);
        }
    }

    private static int[] row(int... numbers) {
        return numbers;
    }

    private static void way() {
        refusedEach(UNKNOWN, "way", row(0, 0, 0, 25), 0, -1, 4, MIN, MAX);
        refused(UNKNOWN, "way", 4, 3, 0, 25);
        refused(UNKNOWN, "way", -1, 0, -1, -1);
        refusedEach(OUTSIDE, "way", row(0, 0, 0, 25), 1, -1, 3, MIN, MAX);
        refused(OUTSIDE, "way", 3, 3, 0, 0);
        refused(OUTSIDE, "way", 0, 3, 0, -1);
        refused(OUTSIDE, "way", 0, -1, -1, 1);
        for (int k = 0; k < 3; k++) {
            for (int lane = 0; lane < 3; lane++) {
                if (lane != k) {
                    faulty(CAST, "way", k, lane, 0, 3);
                    faulty(CAST, "way", k, lane, 0, 0);
                }
            }
            faulty(NULL, "way", 3, k, 0, 0);
        }
        faulty(CAST, "way", 0, 1, 0, -1);
        faulty(CAST, "way", 0, 1, -1, 1);
        faulty(CAST, "way", 0, 2, 26, 0);
        faulty(NULL, "way", 3, 0, 0, -1);
        faulty(NULL, "way", 3, 0, -1, 1);
        int[] belowZero = {-1, MIN};
        for (int n : belowZero) {
            faulty(SIZE, "way", 0, 0, 0, n);
            faulty(SIZE, "way", 0, 0, -1, n);
            faulty(SIZE, "way", 0, 0, 26, n);
            faulty(SIZE, "way", 0, 0, MAX, n);
        }
        int[][] beyond = {{-1, 1}, {-1, 0}, {-1, 26}, {0, 26}, {1, 25}, {24, 2}, {25, 1}, {26, 0}, {26, 1}, {MIN, 0},
            {MAX, 0}, {0, MAX}, {1, MAX}, {25, MAX}, {MAX, 1}, {MAX, MAX}, {MIN, MAX}, {MIN, 25}};
        for (int[] b : beyond) {
            faulty(INDEX, "way", 0, 0, b[0], b[1]);
        }
    }

    /** A text that is not taken changes nothing, and is none of the machine's faults. */
    private static void wayOfNoText() {
        answers(-100, "way", 0, 0, 0, 0);
        answers(-100, "way", 0, 0, 25, 0);
        answers(-101, "way", 0, 0, 0, 1);
        answers(-124, "way", 0, 0, 0, 24);
        answers(-100, "way", 0, 0, 1, 24);
        answers(-100, "way", 2, 2, 0, 7);
        has = Has.SHEETS;
        answers(-124, "way", 0, 0, 0, 24);
        faulty(INDEX, "way", 0, 0, 0, 26);
        has = Has.WAY;
    }

    private static void ofHouse() {
        refusedEach(UNKNOWN, "ofHouse", row(0, 0), 0, -1, 3, 6, NONE, MIN, MAX);
        refused(UNKNOWN, "ofHouse", 3, 4);
        for (int h = 0; h < 3; h++) {
            refusedEach(OUTSIDE, "ofHouse", row(h, 0), 1, -1, 4, MIN, MAX);
        }
    }

    private static void gearAndGive() {
        refusedEach(UNKNOWN, "gear", row(0), 0, -1, 3, 5, NONE, MIN, MAX);
        refusedEach(UNKNOWN, "give", row(0, 1), 0, -1, 3, 5, NONE, MIN, MAX);
        refused(UNKNOWN, "give", 3, 64);
        refusedEach(OUTSIDE, "give", row(0, 1), 1, -1, 64, 127, MIN, MAX);
        refusedEach(OUTSIDE, "give", row(2, 1), 1, -1, 64);
    }

    private static void bar() {
        refusedEach(UNKNOWN, "bar", row(0, 1), 0, -1, 3, 6, NONE, MIN, MAX);
        refused(UNKNOWN, "bar", 3, 7);
        refusedEach(OUTSIDE, "bar", row(0, 1), 1, -1, 7, NONE, MIN, MAX);
        refusedEach(OUTSIDE, "bar", row(2, 1), 1, -1, 7);
    }

    private static void passes() {
        refusedEach(UNKNOWN, "passes", row(0, 1, 1), 0, -1, 3, 6, NONE, MIN, MAX);
        refused(UNKNOWN, "passes", 3, 64, 0);
        refused(UNKNOWN, "passes", 3, 0, 64);
        refusedEach(OUTSIDE, "passes", row(0, 1, 1), 1, -1, 64, MIN, MAX);
        refusedEach(OUTSIDE, "passes", row(0, 1, 1), 2, -1, 64, MIN, MAX);
    }

    private static void visits() {
        int[] good = row(2, 2, 0, 2, 0);
        refusedEach(UNKNOWN, "visits", good, 0, -1, 4, MIN, MAX);
        refused(UNKNOWN, "visits", 4, 3, -1, 21, 2);
        refusedEach(OUTSIDE, "visits", good, 1, -1, 3, MIN, MAX);
        refusedEach(OUTSIDE, "visits", good, 3, -1, 21, MIN, MAX, 1 << 30);
        refusedEach(OUTSIDE, "visits", good, 4, -1, 2, 9, 16, NONE, MIN, MAX);
        refused(OUTSIDE, "visits", 3, 3, 0, 0, 0);
        refused(OUTSIDE, "visits", 3, 0, 0, -1, 0);
        refused(OUTSIDE, "visits", 3, 0, 0, 0, 2);
        refused(OUTSIDE, "visits", 2, 0, 0, 21, 0);
        refused(OUTSIDE, "visits", 2, 2, -1, 0, 16);
        for (int k = 0; k < 3; k++) {
            for (int lane = 0; lane < 3; lane++) {
                if (lane != k) {
                    faulty(CAST, "visits", k, lane, 0, 1, 0);
                    faulty(CAST, "visits", k, lane, -1, 0, 15);
                }
            }
            faulty(NULL, "visits", 3, k, 0, 0, 0);
            faulty(NULL, "visits", 3, k, -1, 1, 1);
        }
        int[][] beyond = {{-1, 0}, {-1, 1}, {8, 0}, {0, 4}, {1, 4}, {6, 1}, {7, 1}, {2, 3}, {0, 20}, {MAX, 0},
            {MAX, 20}, {MAX - 1, 1}, {MIN, 0}, {MIN, 20}};
        for (int[] b : beyond) {
            faulty(INDEX, "visits", 2, 2, b[0], b[1], 0);
        }
        // its first pair would be refused, too, were all cells there
        faulty(INDEX, "visits", 1, 1, 0, 2, 0);
    }

    private static void visitsPairByPair() {
        refused(UNKNOWN, "visits", 1, 1, 0, 1, 0);
        refused(OUTSIDE, "visits", 1, 1, 1, 1, 0);
        refused(OUTSIDE, "visits", 0, 0, 0, 1, 0);
        refused(UNKNOWN, "visits", 2, 2, 1, 1, 0);
        for (int what = 10; what < 16; what++) {
            refused(UNKNOWN, "visits", 2, 2, 1, 3, what);
        }
        refused(UNKNOWN, "visits", 2, 2, 1, 2, 1);
    }

    private static void visitsWithoutAWay() {
        has = Has.SHEETS;
        refused(UNKNOWN, "visits", 4, 2, 0, 0, 0);
        refused(OUTSIDE, "visits", 2, 2, 0, 0, 16);
        faulty(CAST, "visits", 2, 0, 0, 0, 0);
        faulty(NULL, "visits", 3, 0, 0, 0, 0);
        faulty(INDEX, "visits", 2, 2, 8, 0, 0);
        refused(STATE, "visits", 2, 2, 0, 0, 0);
        refused(STATE, "visits", 2, 2, 0, 0, 1);
        refused(STATE, "visits", 2, 2, 0, 2, 10);
        refused(STATE, "visits", 1, 1, 0, 1, 0);
        refused(STATE, "visits", 1, 1, 1, 1, 0);
        has = Has.WAY;
    }

    private static void going() {
        int[] good = row(2, 2, 4, 3, 0);
        refusedEach(UNKNOWN, "going", good, 0, -1, 4, MIN, MAX);
        refused(UNKNOWN, "going", 4, 3, -1, -1, 1);
        refusedEach(OUTSIDE, "going", good, 1, -1, 3, MIN, MAX);
        refusedEach(OUTSIDE, "going", good, 4, -1, 1, 2, 9, 15, NONE, MIN, MAX);
        refused(OUTSIDE, "going", 3, 3, 0, 0, 0);
        refused(OUTSIDE, "going", 3, 0, 0, 0, 1);
        refused(OUTSIDE, "going", 2, 0, 0, 0, 15);
        refused(OUTSIDE, "going", 2, 2, 0, -1, 15);
        for (int k = 0; k < 3; k++) {
            for (int lane = 0; lane < 3; lane++) {
                if (lane != k) {
                    faulty(CAST, "going", k, lane, 0, 1, 0);
                    faulty(CAST, "going", k, lane, -1, -1, 14);
                }
            }
            faulty(NULL, "going", 3, k, 0, 0, 0);
            faulty(NULL, "going", 3, k, -1, -1, 10);
        }
        int[] belowZero = {-1, MIN};
        for (int n : belowZero) {
            faulty(SIZE, "going", 2, 2, 0, n, 0);
            faulty(SIZE, "going", 2, 2, -1, n, 0);
            faulty(SIZE, "going", 2, 2, 8, n, 0);
        }
        int[][] beyond = {{-1, 0}, {-1, 1}, {8, 0}, {7, 1}, {4, 4}, {5, 3}, {0, 8}, {MAX, 0}, {MAX, 1}, {1, MAX},
            {MAX, MAX}, {MIN, 0}, {MIN, MAX}};
        for (int[] b : beyond) {
            faulty(INDEX, "going", 2, 2, b[0], b[1], 0);
        }
    }

    private static void goingOfNoGuests() {
        refused(UNKNOWN, "going", 2, 2, 0, 1, 0);
        refused(UNKNOWN, "going", 2, 2, 1, 2, 0);
        refused(UNKNOWN, "going", 2, 2, 3, 4, 0);
        refused(UNKNOWN, "going", 1, 1, 1, 1, 0);
        for (int what = 10; what < 15; what++) {
            refused(UNKNOWN, "going", 2, 2, 3, 4, what);
        }
    }

    private static void goingWithoutAWay() {
        has = Has.SHEETS;
        refused(UNKNOWN, "going", -1, 2, 0, 0, 0);
        refused(OUTSIDE, "going", 2, 2, 0, 0, 15);
        faulty(CAST, "going", 2, 0, 0, 0, 0);
        faulty(NULL, "going", 3, 0, 0, 0, 0);
        faulty(SIZE, "going", 2, 2, 0, -1, 0);
        faulty(INDEX, "going", 2, 2, 8, 0, 0);
        refused(STATE, "going", 2, 2, 0, 0, 0);
        refused(STATE, "going", 2, 2, 0, 1, 0);
        refused(STATE, "going", 2, 2, 4, 3, 14);
        has = Has.WAY;
    }

    private static void searches() {
        refusedEach(UNKNOWN, "best", row(0), 0, -2, NONE, MIN);
        answers(NONE, "best", 3);
        answers(NONE, "best", 5);
        answers(NONE, "best", MAX);
        refusedEach(UNKNOWN, "twos", row(0), 0, -2, 3, 5, NONE, MIN, MAX);
        refusedEach(OUTSIDE, "gift", row(0), 0, -1, 2, NONE, MIN, MAX);
        refusedEach(OUTSIDE, "worst", row(0), 0, -1, 2, NONE, MIN, MAX);
    }

    private static void searchesWithoutAWay() {
        has = Has.SHEETS;
        refused(STATE, "least");
        refused(STATE, "hard");
        refusedEach(UNKNOWN, "best", row(0), 0, -2, MIN);
        refusedEach(STATE, "best", row(0), 0, -1, 0, 5, MAX);
        refusedEach(UNKNOWN, "twos", row(0), 0, -2, 0, 4, MIN, MAX);
        refused(STATE, "twos", -1);
        refusedEach(OUTSIDE, "gift", row(0), 0, -1, 2);
        refusedEach(STATE, "gift", row(0), 0, 0, 1);
        refusedEach(OUTSIDE, "worst", row(0), 0, -1, 2);
        refusedEach(STATE, "worst", row(0), 0, 0, 1);
        has = Has.WAY;
    }

    private static void readings() {
        int[] houses = {-1, 3, 6, -8, -10, MIN, MAX};
        refusedEach(UNKNOWN, "reading", row(0, 0), 0, -1, 3, 5, NONE, MIN, MAX);
        refused(UNKNOWN, "reading", 3, NONE);
        refusedEach(UNKNOWN, "reading", row(0, 0), 1, houses);
        refusedEach(OUTSIDE, "back", row(0), 0, -1, 3, 8, MIN, MAX);
        answers(2, "back", 0);
        has = Has.EIGHT_READINGS;
        refused(UNKNOWN, "reading", 3, 0);
        refusedEach(UNKNOWN, "reading", row(0, 0), 1, houses);
        for (int g = 0; g < 3; g++) {
            refusedEach(FULL, "reading", row(g, 0), 1, 0, 1, 2, NONE);
        }
        refusedEach(OUTSIDE, "back", row(0), 0, -1, 9, MIN, MAX);
        answers(8, "back", 0);
        has = Has.WAY;
    }

    private static void hadKindsOdds() {
        refusedEach(UNKNOWN, "had", row(0, 0), 0, -1, 3, 5, NONE, MIN, MAX);
        refused(UNKNOWN, "had", 3, 2);
        refusedEach(OUTSIDE, "had", row(0, 0), 1, -1, 2, NONE, MIN, MAX);
        refusedEach(UNKNOWN, "kinds", row(0), 0, -1, 3, 6, NONE, MIN, MAX);
        refusedEach(UNKNOWN, "odds", row(0, 0), 0, -1, 3, 5, NONE, MIN, MAX);
        refusedEach(OUTSIDE, "odds", row(0, 0), 1, -1, 2, NONE, MIN, MAX);
        refused(UNKNOWN, "odds", 3, 2);
    }

    private static void seenWithoutAWay() {
        has = Has.SHEETS;
        refused(UNKNOWN, "reading", 0, 0);
        refused(UNKNOWN, "reading", 0, NONE);
        refusedEach(OUTSIDE, "back", row(0), 0, -1, 1);
        answers(0, "back", 0);
        refused(UNKNOWN, "had", 0, 0);
        refused(UNKNOWN, "had", 0, 2);
        refused(UNKNOWN, "kinds", 0);
        refused(UNKNOWN, "odds", 0, 0);
        has = Has.WAY;
    }

    private static void sheetAndLose() {
        refusedEach(UNKNOWN, "sheet", row(0, 0, 1), 0, -1, 4, MIN, MAX);
        refused(UNKNOWN, "sheet", 4, 3, 61);
        refused(UNKNOWN, "sheet", 4, 0, -1);
        for (int k = 0; k < 4; k++) {
            refusedEach(OUTSIDE, "sheet", row(k, 0, 1), 1, -1, 3, MIN, MAX);
            refusedEach(OUTSIDE, "sheet", row(k, 0, 1), 2, 61, MAX);
            refused(OUTSIDE, "sheet", k, 3, -1);
            refused(OUTSIDE, "sheet", k, -1, -1);
            for (int lane = 0; lane < 3; lane++) {
                faulty(SIZE, "sheet", k, lane, -1);
                faulty(SIZE, "sheet", k, lane, MIN);
            }
        }
        refusedEach(UNKNOWN, "lose", row(0), 0, -1, 4, MIN, MAX);
        answers(0, "lose", 3);
    }

    private static void putAndCell() {
        refusedEach(UNKNOWN, "put", row(0, 0, 1), 0, -1, 4, MIN, MAX);
        refused(UNKNOWN, "put", 4, -1, 1);
        faulty(NULL, "put", 3, 0, 1);
        faulty(NULL, "put", 3, -1, 1);
        faulty(NULL, "put", 3, 60, 1);
        refusedEach(UNKNOWN, "cell", row(0, 0, 0), 0, -1, 4, MIN, MAX);
        refused(UNKNOWN, "cell", 4, -1, 3);
        refusedEach(OUTSIDE, "cell", row(0, 0, 0), 2, -1, 3, MIN, MAX);
        refused(OUTSIDE, "cell", 3, 0, 3);
        refused(OUTSIDE, "cell", 0, -1, 3);
        int[] lengths = {25, 3, 7};
        for (int k = 0; k < 3; k++) {
            int[] beyond = {-1, lengths[k], lengths[k] + 1, 59, 60, MIN, MAX};
            for (int i : beyond) {
                faulty(INDEX, "put", k, i, 1);
                faulty(INDEX, "cell", k, i, k);
                faulty(CAST, "cell", k, i, (k + 1) % 3);
                faulty(CAST, "cell", k, i, (k + 2) % 3);
            }
            faulty(CAST, "cell", k, 0, (k + 1) % 3);
            faulty(CAST, "cell", k, 0, (k + 2) % 3);
            faulty(NULL, "cell", 3, 0, k);
            faulty(NULL, "cell", 3, -1, k);
        }
    }

    private static void copy() {
        refusedEach(UNKNOWN, "copy", row(0, 0, 0, 1, 1), 0, -1, 4, MIN, MAX);
        refusedEach(UNKNOWN, "copy", row(0, 0, 0, 1, 1), 2, -1, 4, MIN, MAX);
        refused(UNKNOWN, "copy", 4, 0, 3, 0, 1);
        refused(UNKNOWN, "copy", 3, 0, 4, 0, 1);
        refused(UNKNOWN, "copy", 0, -1, 4, -1, -1);
        for (int k = 0; k < 3; k++) {
            faulty(NULL, "copy", 3, 0, k, 0, 0);
            faulty(NULL, "copy", k, 0, 3, 0, 0);
            faulty(NULL, "copy", 3, -1, k, -1, -1);
            faulty(NULL, "copy", k, -1, 3, -1, -1);
            for (int other = 0; other < 3; other++) {
                if (other != k) {
                    faulty(CAST, "copy", k, 0, other, 0, 1);
                    faulty(CAST, "copy", k, 0, other, 0, 0);
                    faulty(CAST, "copy", k, -1, other, -1, -1);
                }
            }
        }
        faulty(NULL, "copy", 3, 0, 3, 0, 0);
    }

    private static void copyIndex() {
        int[][] beyond = {{-1, 0, 0}, {0, -1, 0}, {0, 0, -1}, {-1, 0, 1}, {0, -1, 1}, {8, 0, 0}, {0, 8, 0}, {7, 0, 1},
            {0, 7, 1}, {0, 0, 8}, {1, 0, 7}, {0, 1, 7}, {6, 0, 2}, {0, 6, 2}, {7, 7, -1}, {8, 8, -1}, {MAX, 0, 0},
            {0, MAX, 0}, {MIN, 0, 0}, {0, MIN, 0}, {0, 0, MAX}, {0, 0, MIN}, {1, 0, MAX}, {0, 1, MAX}, {MAX, 0, 1},
            {0, MAX, 1}, {MAX, MAX, MAX}, {MIN, MIN, MIN}, {MIN, 0, MIN}, {MAX, 0, MIN}};
        for (int[] b : beyond) {
            faulty(INDEX, "copy", 2, b[0], 2, b[1], b[2]);
        }
    }

    private static void tellKnockAsMany() {
        refusedEach(UNKNOWN, "tell", row(0), 0, -1, 3, 6, NONE, MIN, MAX);
        refusedEach(UNKNOWN, "knock", row(0), 0, -1, 3, 6, NONE, MIN, MAX);
        refusedEach(UNKNOWN, "as", row(0, 0), 0, -1, 3, 6, NONE, MIN, MAX);
        refused(UNKNOWN, "as", 3, 3);
        for (int h = 0; h < 3; h++) {
            refusedEach(OUTSIDE, "as", row(h, 0), 1, -1, 3, NONE, MIN, MAX);
            for (int kind = h + 1; kind < 3; kind++) {
                faulty(CAST, "as", h, kind);
            }
        }
        refusedEach(OUTSIDE, "many", row(0), 0, -1, 3, NONE, MIN, MAX);
    }

    private static void partsWithoutAWay() {
        has = Has.SHEETS;
        refused(UNKNOWN, "ofHouse", 0, 0);
        refused(UNKNOWN, "gear", 0);
        refused(UNKNOWN, "give", 0, 0);
        refused(UNKNOWN, "bar", 0, 0);
        refused(UNKNOWN, "passes", 0, 0, 0);
        refused(UNKNOWN, "tell", 0);
        refused(UNKNOWN, "knock", 0);
        refused(UNKNOWN, "as", 0, 0);
        refused(UNKNOWN, "as", 0, 3);
        has = Has.WAY;
    }

    /** What a call finds by trying leaves houses, guests, hosts, readings and sheets as they are. */
    private static void questionsChangeNothing() {
        answers(1, "passes", 0, 63, 0);
        answers(NONE, "passes", 0, 0, 0);
        answers(0, "visits", 2, 2, 0, 2, 0);
        answers(NONE, "visits", 2, 2, 0, 2, 1);
        answers(1, "visits", 2, 2, 0, 2, 12);
        answers(0, "visits", 2, 2, 0, 2, 11);
        answers(NONE, "visits", 2, 2, 0, 2, 13);
        answers(4, "going", 2, 2, 4, 3, 0);
        answers(1, "going", 2, 2, 4, 3, 10);
        answers(0, "going", 2, 2, 4, 3, 11);
        answers(NONE, "going", 2, 2, 4, 3, 12);
        answers(21, "least");
        answers(NONE, "hard");
        answers(1, "best", -1);
        answers(0, "best", 0);
        answers(3, "twos", -1);
        answers(1, "twos", 0);
        answers(10, "gift", 0);
        answers(2, "gift", 1);
        answers(2, "worst", 0);
        answers(0, "worst", 1);
        answers(36, "had", 0, 0);
        answers(1, "had", 0, 1);
        answers(7, "kinds", 0);
        answers(1, "odds", 2, 0);
        answers(1, "odds", 2, 1);
        answers(120, "cell", 0, 0, 0);
        answers(-8, "cell", 1, 1, 1);
        answers(1, "as", 2, 0);
        answers(3, "many", 0);
        answers(2, "many", 2);
        answers(0, "copy", 2, 7, 2, 0, 0);
        answers(7, "copy", 2, 0, 2, 0, 7);
        answers(4, "ofHouse", 0, 3);
        answers(20, "gear", 1);
    }
}
