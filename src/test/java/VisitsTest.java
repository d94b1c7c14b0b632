/** Promises 8 and 9: visits and goings. */
public final class VisitsTest {
    private static final Due due = new Due("VisitsTest");
    private static final String TEXT = "x;h013;d246;l056;l126,03,21,36,63";

    public static void main(String[] args) {
        visitsOfNone();
        hostsLearn();
        theLostCountNoMore();
        partiesPutTogether();
        visitsAreForgotten();
        visitsRefused();
        visitsPairByPair();
        visitsOfTwenty();
        goings();
        goingsRefused();
        goingsOfNoOrder();
        due.end();
    }

    private static void visits(TrickHouses x, String name, int lost, int first, int... knows) {
        int n = cells / 2;
        due.is(name + ": lost", x.visits(1, 2, 0, n, 0), lost);
        due.is(name + ": first", x.visits(1, 2, 0, n, 1), first);
        for (int h = 0; h < 6; h++) {
            due.is(name + ": host " + h, x.visits(1, 2, 0, n, 10 + h), h < knows.length ? knows[h] : -9);
        }
    }

    private static int cells = 0;

    private static void pairs(TrickHouses x, int... numbers) {
        cells = numbers.length;
        Due.row(x, numbers);
    }

    private static void visitsOfNone() {
        TrickHouses x = Due.told(TEXT);
        pairs(x);
        visits(x, "no visits", 0, -9, 0, 0, 0, 0);
        pairs(x, 0, 1);
        visits(x, "nobody visits", 0, -9, 0, 0, 0, 0);
    }

    private static void hostsLearn() {
        TrickHouses x = Due.told("x;l016;h016;d016,01,03,02,63");
        pairs(x, 1, 0, 1, 0);
        visits(x, "twice by the same", 1, 1, 1, 0, 0);
        pairs(x, 1, 0, 2, 0, 8, 0);
        visits(x, "both are learned", 8, 2, 3, 0, 0);
        pairs(x, 1, 1, 1, 1, 8, 2, 8, 2);
        visits(x, "others never learn", 0, -9, 0, 0, 0);
    }

    private static void theLostCountNoMore() {
        TrickHouses x = Due.told("x;h006;h116;d016,01,02,04");
        pairs(x, 1, 1, 3, 2);
        visits(x, "gear of the lost is lost", 3, 0, 0, 0, 0);
        pairs(x, 1, 1, 1, 1, 1, 0);
        visits(x, "nobody is left", 1, 0, 0, 0, 0);
        pairs(x, 1, 0, 4, 0, 2, 0);
        visits(x, "the first loss", 6, 1, 0, 0, 0);
        pairs(x, 4, 0, 7, 0);
        visits(x, "one of them is lost already", 4, 0, 0, 0, 0);
    }

    private static void partiesPutTogether() {
        TrickHouses x = Due.told("x;d016;l236,01,02,12");
        pairs(x, 3, 0);
        visits(x, "by both", 0, -9, 0, 0);
        pairs(x, 5, 0);
        visits(x, "all of the party are lost", 5, 0, 0, 0);
        pairs(x, 7, 1, 7, 1, 7, 1);
        visits(x, "a party wears a host out", 7, 2, 0, 12);
    }

    private static void visitsAreForgotten() {
        TrickHouses x = Due.told("x;l006,01");
        pairs(x, 1, 0);
        visits(x, "once", 0, -9, 1);
        visits(x, "once more", 0, -9, 1);
        due.is("gear is still there", x.gear(0), 1);
    }

    private static void visitsRefused() {
        TrickHouses x = new TrickHouses();
        due.is("no sheet", x.visits(4, 9, 0, 99, 9), -1);
        due.is("no sheet", x.visits(-1, 0, 0, 0, 0), -1);
        due.is("lane 3", x.visits(0, 3, 0, 0, 0), -2);
        due.is("lane -1", x.visits(0, -1, 0, 0, 0), -2);
        due.is("n -1", x.visits(0, 0, 0, -1, 0), -2);
        due.is("n 21", x.visits(0, 0, 0, 21, 0), -2);
        int[] wrong = {-1, 2, 9, 16, Integer.MIN_VALUE, Integer.MAX_VALUE};
        for (int what : wrong) {
            due.is("what " + what, x.visits(0, 0, 0, 0, what), -2);
        }
        due.is("nothing", x.visits(0, 0, -1, 0, 0), -11);
        due.is("fault()", x.fault(), 1);
        x.sheet(0, 1, 4);
        due.is("another lane", x.visits(0, 0, -1, 0, 0), -12);
        due.is("fault()", x.fault(), 2);
        due.is("from -1 on", x.visits(0, 1, -1, 0, 0), -13);
        due.is("fault()", x.fault(), 3);
        due.is("no pair at the end", x.visits(0, 1, 4, 0, 0), -3);
        due.is("fault() of what was refused", x.fault(), 0);
        due.is("no pair beyond the end", x.visits(0, 1, 5, 0, 0), -13);
        due.is("three pairs of two", x.visits(0, 1, 0, 3, 0), -13);
        due.is("a pair and a half", x.visits(0, 1, 1, 2, 0), -13);
        due.is("two pairs without a way", x.visits(0, 1, 0, 2, 0), -3);
        due.is("i that wraps", x.visits(0, 1, Integer.MAX_VALUE, 20, 0), -13);
    }

    private static void visitsPairByPair() {
        TrickHouses x = Due.told(TEXT);
        pairs(x, 16, 9, 15, 9);
        due.is("the party ahead of the house", x.visits(1, 2, 0, 1, 0), -2);
        due.is("fault()", x.fault(), 0);
        due.is("the second pair alone", x.visits(1, 2, 2, 1, 0), -1);
        pairs(x, 15, 4, 16, 0);
        due.is("the first pair first", x.visits(1, 2, 0, 2, 0), -1);
        pairs(x, 15, 0, 16, 0, 1, 4);
        due.is("the second pair", x.visits(1, 2, 0, 3, 0), -2);
        pairs(x, -1, 0);
        due.is("a party of -1", x.visits(1, 2, 0, 1, 0), -2);
        pairs(x, 1, -1);
        due.is("house -1", x.visits(1, 2, 0, 1, 0), -1);
        pairs(x, 16, 0);
        due.is("what of a refused one", x.visits(1, 2, 0, 1, 15), -2);
        x.sheet(1, 0, 2);
        x.put(1, 0, 128 + 1);
        due.is("a party cut to a byte", x.visits(1, 0, 0, 1, 0), -2);
        x.put(1, 0, 256 + 15);
        due.is("a party cut to a good one", x.visits(1, 0, 0, 1, 0), 0);
    }

    private static void visitsOfTwenty() {
        TrickHouses x = Due.told("x;h006,01,02");
        int[] numbers = new int[41];
        for (int k = 0; k < 20; k++) {
            numbers[1 + 2 * k] = k < 19 ? 1 : 2;
        }
        pairs(x, numbers);
        due.is("the twentieth", x.visits(1, 2, 1, 20, 1), 19);
        due.is("who", x.visits(1, 2, 1, 20, 0), 2);
        due.is("but for the last", x.visits(1, 2, 1, 19, 0), 0);
        pairs(x, 1, 0, 2, 0, 4, 9);
        due.is("what comes behind is not looked at", x.visits(1, 2, 0, 2, 0), 2);
    }

    private static void going(TrickHouses x, String name, int[] order, int through, int... lostIn) {
        Due.row(x, order);
        due.is(name + ": through", x.going(1, 2, 0, order.length, 0), through);
        for (int g = 0; g < 5; g++) {
            due.is(name + ": guest " + g, x.going(1, 2, 0, order.length, 10 + g), lostIn[g]);
        }
    }

    private static void goings() {
        TrickHouses x = Due.told(TEXT);
        going(x, "nobody", new int[] {}, 0, -9, -9, -9, -9, -9);
        going(x, "one", new int[] {0}, 0, 1, -9, -9, -9, -9);
        going(x, "by numbers", new int[] {0, 1, 2, 3}, 10, 1, -9, 0, -9, -9);
        going(x, "turned", new int[] {3, 2, 1, 0}, 8, 1, 2, 0, -9, -9);
        TrickHouses y = Due.told("x;l016;l236,05,05,10,15,63");
        going(y, "by numbers", new int[] {0, 1, 2, 3, 4}, 5, -9, 0, -9, 0, 0);
        going(y, "the strong one first", new int[] {4, 0, 1, 2, 3}, 20, 0, 0, -9, 0, -9);
        Due.row(y, 9, 2, 0, 9);
        due.is("from 1 on", y.going(1, 2, 1, 2, 0), 5);
        due.is("but for the last", y.going(1, 2, 1, 1, 0), 4);
    }

    private static void goingsRefused() {
        TrickHouses x = new TrickHouses();
        due.is("no sheet", x.going(4, 9, 0, 0, 9), -1);
        due.is("no sheet", x.going(-1, 0, 0, 0, 0), -1);
        due.is("lane 3", x.going(0, 3, 0, 0, 0), -2);
        due.is("lane -1", x.going(0, -1, 0, 0, 0), -2);
        int[] wrong = {-1, 1, 9, 15, Integer.MIN_VALUE, Integer.MAX_VALUE};
        for (int what : wrong) {
            due.is("what " + what, x.going(0, 0, 0, 0, what), -2);
        }
        due.is("nothing", x.going(0, 0, -1, -1, 0), -11);
        due.is("fault()", x.fault(), 1);
        x.sheet(0, 1, 4);
        due.is("another lane", x.going(0, 0, -1, -1, 0), -12);
        due.is("fault()", x.fault(), 2);
        due.is("a length below 0", x.going(0, 1, -1, -1, 0), -14);
        due.is("fault()", x.fault(), 4);
        due.is("from -1 on", x.going(0, 1, -1, 0, 0), -13);
        due.is("none beyond the end", x.going(0, 1, 5, 0, 0), -13);
        due.is("none at the end", x.going(0, 1, 4, 0, 0), -3);
        due.is("fault() of what was refused", x.fault(), 0);
        due.is("one too many", x.going(0, 1, 1, 4, 0), -13);
        due.is("sums that wrap", x.going(0, 1, 1, Integer.MAX_VALUE, 0), -13);
        due.is("fault()", x.fault(), 3);
        due.is("without a way", x.going(0, 1, 0, 4, 0), -3);
    }

    private static void goingsOfNoOrder() {
        TrickHouses x = Due.told(TEXT);
        int[][] wrong = {{4}, {-1}, {0, 0}, {0, 1, 2, 3, 0}, {3, 1, 3}, {32}, {0, 1, 2, 3, 4}};
        for (int[] order : wrong) {
            Due.row(x, order);
            due.is("no order of " + order.length, x.going(1, 2, 0, order.length, 0), -1);
            due.is("fault()", x.fault(), 0);
        }
        x.sheet(1, 2, 60);
        due.is("sixty times the same", x.going(1, 2, 0, 60, 10), -1);
    }
}
