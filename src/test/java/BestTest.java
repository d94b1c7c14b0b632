/** Promises 10 to 15: the least gear, the hard house, the best order, twos, gift and worst. */
public final class BestTest {
    private static final Due due = new Due("BestTest");

    public static void main(String[] args) {
        leastAndHard();
        best();
        twos();
        twosOfFewestParties();
        gift();
        worst();
        nothingIsChanged();
        withoutAWay();
        due.end();
    }

    private static void leastIs(String text, int least, int hard) {
        TrickHouses x = Due.told(text);
        due.is("least of " + text, x.least(), least);
        due.is("hard of " + text, x.hard(), hard);
    }

    private static void leastAndHard() {
        leastIs("x;h016,00", 1, -9);
        leastIs("x;h106,00", 1, -9);
        leastIs("x;h100,00", 2, -9);
        leastIs("x;d016,00", 3, -9);
        leastIs("x;d226,00", 4, -9);
        leastIs("x;d010,00", -9, 0);
        leastIs("x;d011,00", -9, 0);
        leastIs("x;h000,00", -9, 0);
        leastIs("x;l000,00", -9, 0);
        leastIs("x;h016;h126;h236,00", 5, -9);
        leastIs("x;h016;h026,00", 1, -9);
        // one kind that helps in both is fewer than two lesser kinds
        leastIs("x;h136;h236,00", 8, -9);
        leastIs("x;l006;l006,00", 1, -9);
        leastIs("x;d016;d236;d456,00", 63, -9);
        leastIs("x;h016;d233;d244,00", -9, 1);
        leastIs("x;h512;l423;h306,00", 7, -9);
        leastIs("x;h513;l424;h300,00", 2 + 4 + 8, -9);
    }

    private static void best(TrickHouses x, String name, int most, int... order) {
        due.is(name + ": how many", x.best(-1), most);
        for (int k = 0; k < order.length; k++) {
            due.is(name + ": place " + k, x.best(k), order[k]);
        }
        due.is(name + ": behind the last", x.best(order.length), -9);
        due.is(name + ": far behind", x.best(Integer.MAX_VALUE), -9);
        due.is(name + ": -2", x.best(-2), -1);
    }

    private static void best() {
        best(Due.told("x;h006,00"), "one who is lost", 0, 0);
        best(Due.told("x;h006,01,01,01"), "all come through", 3, 0, 1, 2);
        // the one who has both must come behind him who has but the first
        best(Due.told("x;l016,03,01"), "turned", 2, 1, 0);
        // the first is lost anyway, but takes from the others what they need
        best(Due.told("x;l016;h226,03,07,05"), "the one who is lost last", 2, 2, 1, 0);
        best(Due.told("x;l016;l236,63,05,10"), "some are lost in any order", 2, 0, 1, 2);
        best(Due.told("x;l016;l236;l456,63,21,63,42,21"), "five", 2, 0, 1, 2, 3, 4);
    }

    private static void twos(TrickHouses x, String name, int most, int... mates) {
        due.is(name + ": how many", x.twos(-1), most);
        for (int g = 0; g < mates.length; g++) {
            due.is(name + ": mate of " + g, x.twos(g), mates[g]);
        }
        due.is(name + ": no guest", x.twos(mates.length), -1);
        due.is(name + ": -2", x.twos(-2), -1);
    }

    private static void twos() {
        twos(Due.told("x;h006,01"), "one", 1, 0);
        twos(Due.told("x;h006,00"), "one who is lost", 0, 0);
        twos(Due.told("x;d016,01,02"), "both needed", 2, 1, 0);
        twos(Due.told("x;d016,01,01,02,02"), "both needed, twice", 4, 2, 3, 0, 1);
        twos(Due.told("x;d016,01,02,04"), "one stays alone", 2, 1, 0, 2);
        twos(Due.told("x;l016,01,02,03,01,02"), "as many as can be", 4, 1, 0, 3, 2, 4);
    }

    private static void twosOfFewestParties() {
        twos(Due.told("x;h006,01,01,01"), "fewest, then the first row", 3, 0, 2, 1);
        twos(Due.told("x;h006,01,01,01,01"), "fewest of four", 4, 1, 0, 3, 2);
        twos(Due.told("x;h006,00,00,00,00,00"), "all are lost", 0, 0, 2, 1, 4, 3);
    }

    private static void gift(String text, int gift, int come) {
        TrickHouses x = Due.told(text);
        due.is("gift by " + text, x.gift(0), gift);
        due.is("come by " + text, x.gift(1), come);
        due.is("gift(2)", x.gift(2), -2);
        due.is("gift(-1)", x.gift(-1), -2);
    }

    private static void gift() {
        gift("x;h016,00", 0, 1);
        gift("x;h526,00", 2, 1);
        gift("x;h520,01,01", 2, 1);
        gift("x;h530,32,01", 13, 2);
        gift("x;h006,63", -9, 1);
        gift("x;h000,00", -9, 0);
        gift("x;d016,00", -9, 0);
        gift("x;d016,00,01,02", 11, 1);
        // a gift to him who goes first spares for the next what he used
        gift("x;l016,02,02", 0, 2);
        gift("x;l016;h226,05,05,02", 11, 2);
        gift("x;h016;h236;h456,20,05,17,00,20", 0, 1);
        gift("x;d456,16,16,16,16,16", 5, 1);
    }

    private static void worst(String text, int kind, int come) {
        TrickHouses x = Due.told(text);
        due.is("worst by " + text, x.worst(0), kind);
        due.is("come by " + text, x.worst(1), come);
        due.is("worst(2)", x.worst(2), -2);
        due.is("worst(-1)", x.worst(-1), -2);
    }

    private static void worst() {
        worst("x;h016,00", 0, 0);
        worst("x;h006,01", 0, 0);
        worst("x;h456,48,16,32", 4, 2);
        worst("x;h346,63,63", 0, 2);
        worst("x;h016,63,63,63,63,63", 0, 5);
        worst("x;h555;h556,63,32", 0, 0);
        worst("x;h355,63,08,40", 3, 0);
        worst("x;d236,63,12,12", 2, 0);
        worst("x;h456;h336,63,08,40,24", 3, 0);
    }

    private static void nothingIsChanged() {
        TrickHouses x = Due.told("x;l016;h230,05,09,03");
        for (int k = 0; k < 2; k++) {
            due.is("worst(0)", x.worst(0), 0);
            due.is("gift(0)", x.gift(0), 11);
            due.is("twos(-1)", x.twos(-1), 3);
            due.is("best(-1)", x.best(-1), 1);
            due.is("least()", x.least(), 5);
            due.is("gear(0)", x.gear(0), 5);
            due.is("gear(1)", x.gear(1), 9);
            due.is("gear(2)", x.gear(2), 3);
            due.is("ofHouse(1, 3)", x.ofHouse(1, 3), 0);
            due.is("passes(0, 1, 0)", x.passes(0, 1, 0), 1);
        }
    }

    private static void withoutAWay() {
        TrickHouses x = new TrickHouses();
        due.is("least()", x.least(), -3);
        due.is("hard()", x.hard(), -3);
        due.is("best(-2)", x.best(-2), -1);
        due.is("best(-1)", x.best(-1), -3);
        due.is("best(9)", x.best(9), -3);
        due.is("twos(-2)", x.twos(-2), -1);
        due.is("twos(-1)", x.twos(-1), -3);
        due.is("twos(0)", x.twos(0), -1);
        due.is("gift(2)", x.gift(2), -2);
        due.is("gift(0)", x.gift(0), -3);
        due.is("gift(1)", x.gift(1), -3);
        due.is("worst(-1)", x.worst(-1), -2);
        due.is("worst(0)", x.worst(0), -3);
        due.is("worst(1)", x.worst(1), -3);
    }
}
