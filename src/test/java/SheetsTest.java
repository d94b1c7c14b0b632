/** Promises 21 to 31: sheets, telling and knocking, casts, trace, faults and counts. */
public final class SheetsTest {
    private static final Due due = new Due("SheetsTest");

    public static void main(String[] args) {
        sheet();
        lose();
        putAndLanes();
        cell();
        copyRefusedOrFaulty();
        copyOverlapping();
        tell();
        knock();
        traceWraps();
        as();
        faultStays();
        many();
        due.end();
    }

    private static void sheet() {
        TrickHouses x = new TrickHouses();
        due.is("sheet(-1, 9, 99)", x.sheet(-1, 9, 99), -1);
        due.is("sheet(4, 0, 0)", x.sheet(4, 0, 0), -1);
        due.is("sheet(0, 3, -1)", x.sheet(0, 3, -1), -2);
        due.is("sheet(0, -1, 1)", x.sheet(0, -1, 1), -2);
        due.is("sheet(0, 0, 61)", x.sheet(0, 0, 61), -2);
        due.is("fault()", x.fault(), 0);
        due.is("sheet(0, 0, -1)", x.sheet(0, 0, -1), -14);
        due.is("fault()", x.fault(), 4);
        due.is("nothing was made", x.lose(0), 0);
        due.is("sheet(3, 2, 60)", x.sheet(3, 2, 60), 1);
        due.is("fault()", x.fault(), 0);
        due.is("the last cell", x.put(3, 59, 7), 1);
        due.is("beyond it", x.put(3, 60, 7), -13);
        due.is("sheet(3, 1, 60)", x.sheet(3, 1, 60), 1);
        due.is("0 at first", x.cell(3, 59, 1), 0);
        due.is("of the new lane", x.cell(3, 59, 2), Due.LOST);
        due.is("sheet(3, 0, 0)", x.sheet(3, 0, 0), 1);
        due.is("no cell", x.put(3, 0, 1), -13);
        x.sheet(3, 0, 2);
        x.put(3, 1, 5);
        due.is("sheet(3, 0, -1)", x.sheet(3, 0, -1), -14);
        due.is("a fault changes nothing", x.cell(3, 1, 0), 5);
    }

    private static void lose() {
        TrickHouses x = new TrickHouses();
        due.is("lose(-1)", x.lose(-1), -1);
        due.is("lose(4)", x.lose(4), -1);
        due.is("lose(0)", x.lose(0), 0);
        x.sheet(0, 0, 0);
        due.is("lose(0) of an empty row", x.lose(0), 1);
        due.is("lose(0) again", x.lose(0), 0);
        due.is("put(0, 0, 0)", x.put(0, 0, 0), -11);
        x.sheet(1, 0, 1);
        x.lose(0);
        due.is("others stay", x.put(1, 0, 0), 1);
        x.put(1, 1, 0);
        x.lose(1);
        due.is("lose names no fault", x.fault(), 3);
    }

    private static void cuts(TrickHouses x, int lane, int v, long want) {
        due.is("put " + v, x.put(lane, 1, v), 1);
        due.is(v + " in lane " + lane, x.cell(lane, 1, lane), want);
    }

    private static void putAndLanes() {
        TrickHouses x = new TrickHouses();
        for (int lane = 0; lane < 3; lane++) {
            x.sheet(lane, lane, 3);
        }
        cuts(x, 0, 127, 127);
        cuts(x, 0, 128, -128);
        cuts(x, 0, -129, 127);
        cuts(x, 0, 256, 0);
        cuts(x, 0, 65535, -1);
        cuts(x, 1, 128, 128);
        cuts(x, 1, 32767, 32767);
        cuts(x, 1, 32768, -32768);
        cuts(x, 1, -32769, 32767);
        cuts(x, 2, Integer.MAX_VALUE, Integer.MAX_VALUE);
        cuts(x, 2, Integer.MIN_VALUE, Integer.MIN_VALUE);
        due.is("its neighbour", x.cell(2, 0, 2), 0);
        due.is("its other neighbour", x.cell(2, 2, 2), 0);
        due.is("put(4, -1, 0)", x.put(4, -1, 0), -1);
        due.is("put(-1, 0, 0)", x.put(-1, 0, 0), -1);
        due.is("put(3, -1, 0)", x.put(3, -1, 0), -11);
        due.is("fault()", x.fault(), 1);
        due.is("put(0, -1, 0)", x.put(0, -1, 0), -13);
        due.is("put(0, 3, 0)", x.put(0, 3, 0), -13);
        due.is("fault()", x.fault(), 3);
        due.is("put(4, 0, 0)", x.put(4, 0, 0), -1);
        due.is("fault()", x.fault(), 0);
        x.put(0, 3, 0);
        due.is("put(0, 2, 0)", x.put(0, 2, 0), 1);
        due.is("fault()", x.fault(), 0);
    }

    private static void lostBy(TrickHouses x, int k, int i, int lane, int fault) {
        due.is("cell(" + k + ", " + i + ", " + lane + ")", x.cell(k, i, lane), Due.LOST);
        due.is("fault() of cell(" + k + ", " + i + ", " + lane + ")", x.fault(), fault);
    }

    private static void cell() {
        TrickHouses x = new TrickHouses();
        x.sheet(0, 1, 2);
        x.put(0, 1, -5);
        due.is("cell(0, 1, 1)", x.cell(0, 1, 1), -5);
        lostBy(x, 1, -1, 0, 1);
        lostBy(x, -1, 0, 0, 0);
        lostBy(x, 0, -1, 0, 2);
        lostBy(x, 4, 0, 0, 0);
        lostBy(x, 0, 0, 2, 2);
        lostBy(x, 0, 0, 3, 0);
        lostBy(x, 0, -1, 1, 3);
        lostBy(x, 0, 0, -1, 0);
        lostBy(x, 0, 2, 1, 3);
        lostBy(x, 0, Integer.MAX_VALUE, 1, 3);
        lostBy(x, 0, Integer.MIN_VALUE, 1, 3);
        due.is("cell(0, 0, 1)", x.cell(0, 0, 1), 0);
        due.is("fault()", x.fault(), 0);
    }

    private static void copyRefusedOrFaulty() {
        TrickHouses x = new TrickHouses();
        due.is("copy(4, 0, 0, 0, 0)", x.copy(4, 0, 0, 0, 0), -1);
        due.is("copy(0, 0, 4, 0, 0)", x.copy(0, 0, 4, 0, 0), -1);
        due.is("copy(-1, 0, 0, 0, 0)", x.copy(-1, 0, 0, 0, 0), -1);
        due.is("copy(0, 0, -1, 0, 0)", x.copy(0, 0, -1, 0, 0), -1);
        x.sheet(0, 0, 4);
        due.is("from nothing", x.copy(1, -1, 0, -1, -1), -11);
        due.is("to nothing", x.copy(0, -1, 1, -1, -1), -11);
        due.is("fault()", x.fault(), 1);
        x.sheet(1, 1, 4);
        due.is("unlike lanes", x.copy(0, -1, 1, -1, -1), -12);
        due.is("fault()", x.fault(), 2);
        x.sheet(1, 0, 3);
        int[][] beyond = {{-1, 0, 1}, {0, -1, 1}, {0, 0, -1}, {0, 0, 4}, {1, 0, 4}, {0, 1, 3}, {5, 0, 0}, {0, 4, 0},
            {1, 0, Integer.MAX_VALUE}, {0, 1, Integer.MAX_VALUE}, {-1, -1, 0}, {Integer.MAX_VALUE, 0, 1}};
        for (int[] b : beyond) {
            due.is("copy from " + b[0] + " to " + b[1] + ", " + b[2], x.copy(0, b[0], 1, b[1], b[2]), -13);
            due.is("fault()", x.fault(), 3);
        }
        due.is("none at both ends", x.copy(0, 4, 1, 3, 0), 0);
        due.is("fault()", x.fault(), 0);
    }

    private static void rowIs(TrickHouses x, int k, int lane, int... want) {
        for (int p = 0; p < want.length; p++) {
            due.is("sheet " + k + ", cell " + p, x.cell(k, p, lane), want[p]);
        }
    }

    private static void copyOverlapping() {
        TrickHouses x = new TrickHouses();
        Due.row(x, 1, 2, 3, 4, 5);
        due.is("upwards", x.copy(1, 0, 1, 1, 4), 4);
        rowIs(x, 1, 2, 1, 1, 2, 3, 4);
        Due.row(x, 1, 2, 3, 4, 5);
        due.is("downwards", x.copy(1, 1, 1, 0, 4), 4);
        rowIs(x, 1, 2, 2, 3, 4, 5, 5);
        x.sheet(2, 2, 3);
        due.is("to another", x.copy(1, 3, 2, 1, 2), 2);
        rowIs(x, 2, 2, 0, 5, 5);
        rowIs(x, 1, 2, 2, 3, 4, 5, 5);
        x.put(1, 3, 9);
        rowIs(x, 2, 2, 0, 5, 5);
    }

    private static int traceOf(int... numbers) {
        int sum = 0;
        for (int number : numbers) {
            sum = 31 * sum + number;
        }
        return sum;
    }

    private static void tell() {
        TrickHouses x = Due.told("x;h013;d244;l056,00");
        due.is("tell(3)", x.tell(3), -1);
        due.is("tell(-1)", x.tell(-1), -1);
        due.is("trace()", x.trace(), 0);
        due.is("a house", x.tell(0), 3);
        due.is("trace()", x.trace(), traceOf(1));
        due.is("a double", x.tell(1), 104);
        due.is("trace()", x.trace(), traceOf(1, 2, 1));
        due.is("a learning one", x.tell(2), 112);
        due.is("trace()", x.trace(), traceOf(1, 2, 1, 3, 2, 1, 1));
        x.bar(2, 1);
        due.is("by what it bars now", x.tell(2), 102);
    }

    private static void knock() {
        TrickHouses x = Due.told("x;l013;d244;h056;l000,00");
        due.is("knock(4)", x.knock(4), -1);
        due.is("knock(-1)", x.knock(-1), -1);
        due.is("trace()", x.trace(), 0);
        due.is("a learning one", x.knock(0), 80);
        due.is("trace()", x.trace(), traceOf(5));
        due.is("a double", x.knock(1), 1);
        due.is("trace()", x.trace(), traceOf(5, 4));
        due.is("a house", x.knock(2), 2);
        due.is("trace()", x.trace(), traceOf(5, 4, 4));
        due.is("another learning one", x.knock(3), 80);
        due.is("trace()", x.trace(), traceOf(5, 4, 4, 5));
    }

    private static void traceWraps() {
        TrickHouses x = Due.told("x;l013,00");
        int sum = 0;
        for (int k = 0; k < 20; k++) {
            x.tell(0);
            for (int number : new int[] {3, 2, 1, 1}) {
                sum = 31 * sum + number;
            }
            due.is("trace() of " + k, x.trace(), sum);
        }
    }

    private static void as() {
        TrickHouses x = Due.told("x;h013;d244;l056,00");
        for (int h = 0; h < 3; h++) {
            for (int kind = 0; kind < 3; kind++) {
                boolean is = kind <= h;
                due.is("as(" + h + ", " + kind + ")", x.as(h, kind), is ? 1 : -12);
                due.is("fault()", x.fault(), is ? 0 : 2);
            }
        }
        x.as(0, 2);
        due.is("as(3, 3)", x.as(3, 3), -1);
        due.is("fault()", x.fault(), 0);
        x.as(0, 2);
        due.is("as(0, 3)", x.as(0, 3), -2);
        due.is("fault()", x.fault(), 0);
        due.is("as(2, -1)", x.as(2, -1), -2);
        due.is("as(-1, 0)", x.as(-1, 0), -1);
    }

    /** Calls that name no fault leave it as it is; a good call that names one ends it. */
    private static void faultStays() {
        TrickHouses x = Due.told("x;h013;l056,07");
        x.sheet(0, 0, -1);
        x.ofHouse(9, 9);
        x.gear(0);
        x.give(0, 1);
        x.bar(0, 9);
        x.passes(0, 1, 0);
        x.least();
        x.hard();
        x.best(0);
        x.twos(0);
        x.gift(0);
        x.worst(0);
        x.reading(0, 0);
        x.back(1);
        x.had(0, 0);
        x.kinds(0);
        x.odds(9, 0);
        x.lose(2);
        x.tell(0);
        x.knock(0);
        x.trace();
        x.many(0);
        due.is("fault()", x.fault(), 4);
        due.is("fault() again", x.fault(), 4);
        String[] names = {"way", "visits", "going", "sheet", "put", "cell", "copy", "as"};
        for (int c = 0; c < names.length; c++) {
            x.sheet(1, 2, 2);
            x.put(9, 0, 0);
            x.sheet(3, 0, -1);
            due.is("fault() ahead of " + names[c], x.fault(), 4);
            goodCall(x, c);
            due.is("fault() behind " + names[c], x.fault(), 0);
        }
    }

    private static void goodCall(TrickHouses x, int c) {
        switch (c) {
            case 0 -> x.way(1, 2, 0, 2);
            case 1 -> x.visits(1, 2, 0, 1, 0);
            case 2 -> x.going(1, 2, 0, 1, 0);
            case 3 -> x.sheet(3, 0, 1);
            case 4 -> x.put(1, 0, 1);
            case 5 -> x.cell(1, 0, 2);
            case 6 -> x.copy(1, 0, 1, 0, 1);
            default -> x.as(0, 0);
        }
    }

    private static void many() {
        TrickHouses x = Due.told("x;h013;l056,07,08,09");
        x.reading(0, 0);
        due.is("many(0)", x.many(0), 2);
        due.is("many(1)", x.many(1), 3);
        due.is("many(2)", x.many(2), 1);
        due.is("many(3)", x.many(3), -2);
        due.is("many(-1)", x.many(-1), -2);
    }
}
