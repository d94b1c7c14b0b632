/** Promises 16 to 20: readings, what fits them, and odds. */
public final class SeenTest {
    private static final Due due = new Due("SeenTest");

    public static void main(String[] args) {
        readings();
        back();
        had();
        hadOfOthers();
        kinds();
        readingsThatClash();
        odds();
        withoutAWay();
        due.end();
    }

    private static void readings() {
        TrickHouses x = Due.told("x;h016;h236,05,00");
        due.is("reading(2, 9)", x.reading(2, 9), -1);
        due.is("reading(-1, 0)", x.reading(-1, 0), -1);
        due.is("reading(0, 2)", x.reading(0, 2), -1);
        due.is("reading(0, -1)", x.reading(0, -1), -1);
        due.is("many(2)", x.many(2), 0);
        for (int r = 0; r < 8; r++) {
            due.is("reading " + r, x.reading(r % 2, r % 2 == 0 ? -9 : 0), r);
            due.is("many(2)", x.many(2), r + 1);
        }
        due.is("a ninth", x.reading(0, 0), -4);
        due.is("a ninth of no guest", x.reading(2, 0), -1);
        due.is("a ninth of no house", x.reading(0, 2), -1);
        due.is("many(2)", x.many(2), 8);
        due.is("had(0, 0) by eight", x.had(0, 0), 36);
        due.is("back(1)", x.back(1), 7);
        due.is("an eighth again", x.reading(0, 0), 7);
        due.is("had(0, 0) by a clash", x.had(0, 0), 0);
    }

    private static void back() {
        TrickHouses x = Due.told("x;h016;h236,05,00");
        due.is("back(0) of none", x.back(0), 0);
        due.is("back(1) of none", x.back(1), -2);
        x.reading(0, 0);
        x.reading(0, 1);
        x.reading(0, -9);
        due.is("back(-1)", x.back(-1), -2);
        due.is("back(4)", x.back(4), -2);
        due.is("back(0)", x.back(0), 3);
        due.is("had by a clash", x.had(0, 0), 0);
        due.is("back(2)", x.back(2), 1);
        due.is("the first stays", x.had(0, 0), 16);
        due.is("back(1)", x.back(1), 0);
        due.is("had by none", x.had(0, 0), 64);
        due.is("back(the most)", x.back(Integer.MAX_VALUE), -2);
    }

    private static void had() {
        TrickHouses x = Due.told("x;h016;d234,63,07");
        due.is("had(0, 0) without readings", x.had(0, 0), 64);
        due.is("had(0, 1) without readings", x.had(0, 1), 0);
        x.reading(0, -9);
        due.is("came through: how many", x.had(0, 0), 12);
        due.is("came through: the least", x.had(0, 1), 13);
        due.is("gear(0) stays", x.gear(0), 63);
        x.back(1);
        x.reading(0, 0);
        due.is("lost in 0: how many", x.had(0, 0), 16);
        due.is("lost in 0: the least", x.had(0, 1), 0);
        x.back(1);
        x.reading(0, 1);
        due.is("lost in 1: how many", x.had(0, 0), 36);
        due.is("lost in 1: the least", x.had(0, 1), 1);
        due.is("had(0, 2)", x.had(0, 2), -2);
        due.is("had(0, -1)", x.had(0, -1), -2);
        due.is("had(2, 2)", x.had(2, 2), -1);
        due.is("had(-1, 0)", x.had(-1, 0), -1);
    }

    private static void hadOfOthers() {
        TrickHouses x = Due.told("x;l016,01,01");
        x.reading(1, -9);
        due.is("the first had not 0", x.had(0, 0), 32);
        due.is("the least of these", x.had(0, 1), 0);
        due.is("the second had 1", x.had(1, 0), 32);
        due.is("the least of these", x.had(1, 1), 2);
        x.reading(0, -9);
        due.is("the first had 1, but not 0", x.had(0, 0), 16);
        due.is("the least of these", x.had(0, 1), 2);
        x.give(0, 2);
        due.is("as gear is now", x.had(1, 0), 32);
        due.is("the least of these", x.had(1, 1), 1);
    }

    private static void kinds() {
        TrickHouses x = Due.told("x;h016;h236,07,05,13");
        due.is("kinds(0) without readings", x.kinds(0), 7);
        due.is("kinds(1) without readings", x.kinds(1), 7);
        due.is("kinds(2)", x.kinds(2), -1);
        due.is("kinds(-1)", x.kinds(-1), -1);
        x.reading(1, 0);
        due.is("one without 1 was lost", x.kinds(0), 2 + 4);
        due.is("by no kind of the other", x.kinds(1), 0);
        x.reading(0, -9);
        due.is("the first came through", x.kinds(0), 2 + 4);
        x.back(2);
        x.reading(2, -9);
        x.reading(1, 1);
        due.is("a double or a learning one", x.kinds(1), 2 + 4);
        due.is("its kind stays", x.ofHouse(1, 0), 0);
        x.back(1);
        due.is("a plain house", x.kinds(0), 1);
        due.is("any kind", x.kinds(1), 7);
        TrickHouses y = Due.told("x;d016;l236,63");
        for (int h = 0; h < 2; h++) {
            due.is("kinds(" + h + ") for one with all gear", y.kinds(h), 7);
            due.is("its kind stays", y.ofHouse(h, 0), 1 + h);
        }
    }

    private static void readingsThatClash() {
        TrickHouses x = Due.told("x;h016,01");
        x.reading(0, -9);
        x.reading(0, 0);
        due.is("had(0, 0)", x.had(0, 0), 0);
        due.is("had(0, 1)", x.had(0, 1), -9);
        due.is("kinds(0)", x.kinds(0), 0);
    }

    private static void odds(TrickHouses x, int g, long upper, long lower) {
        due.is("odds of " + g + ", upper", x.odds(g, 0), upper);
        due.is("odds of " + g + ", lower", x.odds(g, 1), lower);
    }

    private static void odds() {
        TrickHouses x = Due.told("x;l006,01,01,01,00");
        odds(x, 0, 1, 3);
        odds(x, 1, 1, 3);
        odds(x, 2, 1, 3);
        odds(x, 3, 0, 1);
        due.is("no guest", x.odds(4, 0), Due.LOST);
        due.is("no guest", x.odds(-1, 0), Due.LOST);
        due.is("which 2", x.odds(0, 2), Due.LOST);
        due.is("which -1", x.odds(0, -1), Due.LOST);
        TrickHouses y = Due.told("x;l016,01,02,03,03,63");
        odds(y, 0, 1, 4);
        odds(y, 1, 9, 20);
        odds(Due.told("x;l006,01,01,01"), 1, 1, 3);
        odds(Due.told("x;l016;h226,05,07"), 0, 1, 2);
        TrickHouses z = Due.told("x;l006,01");
        odds(z, 0, 1, 1);
        TrickHouses five = Due.told("x;l006,01,01,01,01,01");
        odds(five, 4, 1, 5);
    }

    private static void withoutAWay() {
        TrickHouses x = new TrickHouses();
        due.is("reading(0, -9)", x.reading(0, -9), -1);
        due.is("back(0)", x.back(0), 0);
        due.is("back(1)", x.back(1), -2);
        due.is("had(0, 5)", x.had(0, 5), -1);
        due.is("kinds(0)", x.kinds(0), -1);
        due.is("odds(0, 0)", x.odds(0, 0), Due.LOST);
    }
}
