/** Promises 1 to 7: a new object, the way, houses and gear. */
public final class WayTest {
    private static final Due due = new Due("WayTest");
    private static final String TEXT = "x;h013;d246;l056,03,21,63";

    public static void main(String[] args) {
        newObject();
        firstFaults();
        textsTaken();
        wayRefusedOrFaulty();
        wayMakesAllAnew();
        ofHouse();
        gearAndGive();
        bar();
        passesHouse();
        passesDouble();
        passesLearning();
        passesRefused();
        due.end();
    }

    private static void newObject() {
        TrickHouses x = new TrickHouses();
        due.is("many(0)", x.many(0), 0);
        due.is("many(1)", x.many(1), 0);
        due.is("many(2)", x.many(2), 0);
        due.is("trace()", x.trace(), 0);
        due.is("fault()", x.fault(), 0);
        for (int k = 0; k < 4; k++) {
            due.is("lose of a new sheet " + k, x.lose(k), 0);
            due.is("put on a new sheet " + k, x.put(k, 0, 0), -11);
        }
        due.is("gear(0)", x.gear(0), -1);
        due.is("ofHouse(0, 9)", x.ofHouse(0, 9), -1);
        due.is("least()", x.least(), -3);
    }

    private static void firstFault(String text, int place) {
        TrickHouses x = Due.told(TEXT);
        x.reading(0, 0);
        due.is("way by " + text, Due.tell(x, text), -100 - place);
        due.is("fault() after " + text, x.fault(), 0);
        due.is("houses after " + text, x.many(0), 3);
        due.is("guests after " + text, x.many(1), 3);
        due.is("readings after " + text, x.many(2), 1);
        due.is("bars after " + text, x.ofHouse(0, 3), 3);
        due.is("gear after " + text, x.gear(1), 21);
    }

    private static void firstFaults() {
        firstFault("", 0);
        firstFault("y;h000,00", 0);
        firstFault(";h000,00", 0);
        firstFault("X;h000,00", 0);
        firstFault("x", 1);
        firstFault("x,00", 1);
        firstFault("xx", 1);
        firstFault("x;", 2);
        firstFault("x;x000,00", 2);
        firstFault("x;H000,00", 2);
        firstFault("x;h", 3);
        firstFault("x;h600,00", 3);
        firstFault("x;h/00,00", 3);
        firstFault("x;h0", 4);
        firstFault("x;h060,00", 4);
        firstFault("x;h0:0,00", 4);
        firstFault("x;h05", 5);
        firstFault("x;h057,00", 5);
        firstFault("x;h056", 6);
        firstFault("x;h0560", 6);
        firstFault("x;h056x", 6);
        firstFault("x;h056;", 7);
        firstFault("x;h056;,00", 7);
        firstFault("x;h056,", 7);
        firstFault("x;h056,7", 7);
        firstFault("x;h056,70", 7);
        firstFault("x;h056,,", 7);
        firstFault("x;h056,6", 8);
        firstFault("x;h056,64", 8);
        firstFault("x;h056,69", 8);
        firstFault("x;h056,5:", 8);
        firstFault("x;h056,0,", 8);
        firstFault("x;h056,63;", 9);
        firstFault("x;h056,63;h000,00", 9);
        firstFault("x;h056,630", 9);
        firstFault("x;h056,63,", 10);
        firstFault("x;h056,63,64", 11);
        firstFault("x;h000;d111;l222;h333;d444;l555", 31);
        firstFault("x;h000;d111;l222;h333;d444;l555;", 31);
        firstFault("x;h000;d111;l222;h333;d444;l555;h000,00", 31);
        firstFault("x;h000,00,01,02,03,04,", 21);
        firstFault("x;h000,00,01,02,03,04,05", 21);
    }

    private static void textsTaken() {
        TrickHouses x = new TrickHouses();
        due.is("one house", Due.tell(x, "x;h000,00"), 1);
        due.is("six houses", Due.tell(x, "x;h000;d111;l222;h333;d444;l555,00,11,22,33,59"), 6);
        due.is("many(0)", x.many(0), 6);
        due.is("many(1)", x.many(1), 5);
        due.is("gear(4)", x.gear(4), 59);
        due.is("gear 60", Due.tell(x, "x;h000,60"), 1);
        due.is("gear(0)", x.gear(0), 60);
        for (int lane = 0; lane < 3; lane++) {
            Due.lay(x, 3, lane, "zz" + TEXT + "zz");
            due.is("way from 2 on, lane " + lane, x.way(3, lane, 2, TEXT.length()), 3);
            due.is("way that goes on too long", x.way(3, lane, 2, TEXT.length() + 1), -100 - TEXT.length());
        }
        Due.lay(x, 3, 2, TEXT);
        x.put(3, 0, 'x' + 256);
        due.is("a code that only its low bits tell", x.way(3, 2, 0, TEXT.length()), -100);
        x.put(3, 0, 'x');
        x.put(3, 4, Integer.MIN_VALUE);
        due.is("a code of the least int", x.way(3, 2, 0, TEXT.length()), -104);
        x.put(3, 4, -1);
        due.is("a code of -1", x.way(3, 2, 0, TEXT.length()), -104);
        x.put(3, 4, '0' - 9);
        due.is("a code nine below the digits", x.way(3, 2, 0, TEXT.length()), -104);
    }

    private static void wayRefusedOrFaulty() {
        TrickHouses x = new TrickHouses();
        due.is("no sheet -1", x.way(-1, 5, -1, -1), -1);
        due.is("no sheet 4", x.way(4, 0, 0, 0), -1);
        due.is("lane -1", x.way(0, -1, 0, 0), -2);
        due.is("lane 3", x.way(0, 3, 0, 0), -2);
        due.is("nothing", x.way(0, 0, -1, -1), -11);
        due.is("fault()", x.fault(), 1);
        due.is("refused after a fault", x.way(4, 0, 0, 0), -1);
        due.is("fault()", x.fault(), 0);
        Due.lay(x, 0, 1, TEXT);
        due.is("another lane", x.way(0, 0, -1, -1), -12);
        due.is("fault()", x.fault(), 2);
        due.is("outside after a fault", x.way(0, 3, 0, 0), -2);
        due.is("fault()", x.fault(), 0);
        due.is("a length below 0", x.way(0, 1, -1, -1), -14);
        due.is("fault()", x.fault(), 4);
        due.is("from -1 on", x.way(0, 1, -1, 0), -13);
        due.is("fault()", x.fault(), 3);
        due.is("no cell at the end", x.way(0, 1, TEXT.length(), 0), -100);
        due.is("fault()", x.fault(), 0);
        due.is("no cell beyond the end", x.way(0, 1, TEXT.length() + 1, 0), -13);
        due.is("one cell too many", x.way(0, 1, 1, TEXT.length()), -13);
        due.is("sums that wrap", x.way(0, 1, 1, Integer.MAX_VALUE), -13);
        due.is("i that wraps", x.way(0, 1, Integer.MAX_VALUE, 1), -13);
        due.is("fault()", x.fault(), 3);
        due.is("many(0)", x.many(0), 0);
    }

    private static void wayMakesAllAnew() {
        TrickHouses x = Due.told(TEXT);
        x.reading(0, 0);
        x.bar(0, 5);
        x.give(0, 9);
        x.tell(0);
        due.is("the same text again", x.way(0, 0, 0, TEXT.length()), 3);
        due.is("many(2)", x.many(2), 0);
        due.is("bars", x.ofHouse(0, 3), 3);
        due.is("gear", x.gear(0), 3);
        due.is("the trace stays", x.trace(), 1);
        due.is("fewer houses", Due.tell(x, "x;l120,05"), 1);
        due.is("house 1 is gone", x.ofHouse(1, 0), -1);
        due.is("guest 1 is gone", x.gear(1), -1);
        due.is("kind", x.ofHouse(0, 0), 2);
    }

    private static void ofHouse() {
        TrickHouses x = Due.told(TEXT);
        int[][] want = {{0, 0, 1, 3}, {1, 2, 4, 6}, {2, 0, 5, 6}};
        for (int h = 0; h < 3; h++) {
            for (int what = 0; what < 4; what++) {
                due.is("ofHouse(" + h + ", " + what + ")", x.ofHouse(h, what), want[h][what]);
            }
            due.is("ofHouse what -1", x.ofHouse(h, -1), -2);
            due.is("ofHouse what 4", x.ofHouse(h, 4), -2);
        }
        due.is("ofHouse(3, 4)", x.ofHouse(3, 4), -1);
        due.is("ofHouse(-1, 0)", x.ofHouse(-1, 0), -1);
    }

    private static void gearAndGive() {
        TrickHouses x = Due.told(TEXT);
        due.is("gear(0)", x.gear(0), 3);
        due.is("gear(2)", x.gear(2), 63);
        due.is("gear(3)", x.gear(3), -1);
        due.is("gear(-1)", x.gear(-1), -1);
        due.is("give(0, 63)", x.give(0, 63), 3);
        due.is("give(0, 0)", x.give(0, 0), 63);
        due.is("gear(0)", x.gear(0), 0);
        due.is("give(0, 64)", x.give(0, 64), -2);
        due.is("give(0, -1)", x.give(0, -1), -2);
        due.is("give(3, 64)", x.give(3, 64), -1);
        due.is("give(-1, 0)", x.give(-1, 0), -1);
        due.is("gear(0)", x.gear(0), 0);
    }

    private static void bar() {
        TrickHouses x = Due.told(TEXT);
        due.is("bar(0, 0)", x.bar(0, 0), 3);
        due.is("bar(0, 6)", x.bar(0, 6), 0);
        due.is("bar(0, 5)", x.bar(0, 5), 6);
        due.is("bar(0, 7)", x.bar(0, 7), -2);
        due.is("bar(0, -1)", x.bar(0, -1), -2);
        due.is("bar(3, 7)", x.bar(3, 7), -1);
        due.is("bar(-1, 0)", x.bar(-1, 0), -1);
        due.is("ofHouse(0, 3)", x.ofHouse(0, 3), 5);
    }

    private static void passesHouse() {
        TrickHouses x = Due.told("x;h310;h116,00");
        due.is("both: the first", x.passes(0, 63, 0), 8);
        due.is("the first is known", x.passes(0, 63, 8), 2);
        due.is("the second alone", x.passes(0, 2, 0), 2);
        due.is("both are known", x.passes(0, 63, 10), -9);
        due.is("neither", x.passes(0, 53, 0), -9);
        x.bar(0, 3);
        due.is("the first is barred", x.passes(0, 63, 0), 2);
        due.is("barred, and known", x.passes(0, 63, 2), -9);
        due.is("one kind helps alone", x.passes(1, 2, 0), 2);
        due.is("without it", x.passes(1, 61, 0), -9);
    }

    private static void passesDouble() {
        TrickHouses x = Due.told("x;d316;d226,00");
        due.is("both", x.passes(0, 10, 0), 10);
        due.is("one", x.passes(0, 8, 0), -9);
        due.is("the other", x.passes(0, 2, 0), -9);
        due.is("one is known", x.passes(0, 63, 8), -9);
        due.is("another is known", x.passes(0, 63, 53), 10);
        x.bar(0, 1);
        due.is("one is barred", x.passes(0, 63, 0), -9);
        due.is("twice the same", x.passes(1, 4, 0), 4);
    }

    private static void passesLearning() {
        TrickHouses x = Due.told("x;l316,00");
        due.is("as a house", x.passes(0, 10, 0), 8);
        due.is("it learns nothing by the question", x.passes(0, 10, 0), 8);
        due.is("one alone", x.passes(0, 2, 0), 2);
        due.is("the first is known", x.passes(0, 10, 8), 2);
        due.is("both are known", x.passes(0, 10, 10), -9);
    }

    private static void passesRefused() {
        TrickHouses x = Due.told(TEXT);
        due.is("passes(3, 64, 64)", x.passes(3, 64, 64), -1);
        due.is("passes(-1, 0, 0)", x.passes(-1, 0, 0), -1);
        due.is("passes(0, 64, 0)", x.passes(0, 64, 0), -2);
        due.is("passes(0, -1, 0)", x.passes(0, -1, 0), -2);
        due.is("passes(0, 0, 64)", x.passes(0, 0, 64), -2);
        due.is("passes(0, 0, -1)", x.passes(0, 0, -1), -2);
    }
}
