/** "Terms", parts 1 to 5: a test of its own for each sentence that names a bound. */
public final class TermsTest {
    private static final Due due = new Due("TermsTest");
    private static final int MIN = Integer.MIN_VALUE, MAX = Integer.MAX_VALUE;
    private static final int NONE = -9;
    private static final String LONGEST = "x;h000;d111;l222;h333;d444;l556,00,09,10,60,63";

    public static void main(String[] args) {
        indexOfNoCells();
        setsAreBits();
        sharesInLeastTerms();
        numbersOfHousesAndGuests();
        eachCodeAtEachPlace();
        codesBeyondBytes();
        secondDigitOfGear();
        endsTooSoon();
        theFirstOfSeveralFaults();
        oneHouseOrGuestTooMany();
        lettersAndKinds();
        makesAllAnew();
        usefulButBarred();
        usefulButKnown();
        passedAndUsed();
        hostsLearnWhatWasUsed();
        lostAlready();
        allOfThePartyAreLost();
        goingTillLost();
        eachByHimself();
        least();
        hard();
        best();
        twos();
        gift();
        worst();
        eightReadings();
        had();
        kinds();
        odds();
        sheetsAndRows();
        cutToTheLane();
        bodiesAndTrace();
        traceWraps();
        due.end();
    }

    // ---- refusals and faults (RefusalsTest has each call's)

    private static void indexOfNoCells() {
        due.by("3 INDEX (of cells from i on also where i is not 0 .. how many there are, if none of them is taken, too)");
        int[] lengths = {0, 1, 2, 59, 60};
        for (int length : lengths) {
            TrickHouses x = Due.told("x;h000,00");
            x.sheet(1, 2, length);
            x.sheet(2, 2, 60);
            int[] there = {0, length / 2, length};
            for (int i : there) {
                due.is("way from " + i + " of " + length, x.way(1, 2, i, 0), -100);
                due.is("visits from " + i + " of " + length, x.visits(1, 2, i, 0, 0), 0);
                due.is("going from " + i + " of " + length, x.going(1, 2, i, 0, 0), 0);
                due.is("copy from " + i + " of " + length, x.copy(1, i, 2, 60, 0), 0);
                due.is("copy to " + i + " of " + length, x.copy(2, 60, 1, i, 0), 0);
                due.is("fault()", x.fault(), 0);
            }
            int[] beyond = {-1, length + 1, MIN, MAX};
            for (int i : beyond) {
                due.is("way from " + i + " of " + length, x.way(1, 2, i, 0), -13);
                due.is("visits from " + i + " of " + length, x.visits(1, 2, i, 0, 0), -13);
                due.is("going from " + i + " of " + length, x.going(1, 2, i, 0, 0), -13);
                due.is("copy from " + i + " of " + length, x.copy(1, i, 2, 0, 0), -13);
                due.is("copy to " + i + " of " + length, x.copy(2, 0, 1, i, 0), -13);
                due.is("fault()", x.fault(), 3);
            }
        }
    }

    private static void setsAreBits() {
        due.by("Sets are told as bits (bit k for number k)");
        for (int kind = 0; kind < 6; kind++) {
            TrickHouses x = Due.told("x;h" + kind + kind + "6,00");
            due.is("used of kind " + kind, x.passes(0, 1 << kind, 0), 1 << kind);
            due.is("all but kind " + kind, x.passes(0, 63 - (1 << kind), 0), NONE);
            due.is("least of kind " + kind, x.least(), 1 << kind);
        }
        for (int g = 0; g < 5; g++) {
            TrickHouses x = Due.told("x;h006,00,00,00,00,00");
            x.give(g, 1);
            Due.row(x, 0, 1, 2, 3, 4);
            due.is("guest " + g + " comes through", x.going(1, 2, 0, 5, 0), 1 << g);
            Due.row(x, 1 << g, 0, 31 - (1 << g), 0);
            due.is("all but guest " + g, x.visits(1, 2, 0, 2, 0), 31 - (1 << g));
        }
    }

    private static void sharesInLeastTerms() {
        due.by("Shares are told as upper and lower number (above 0) in least terms");
        share("x;h000,63", 0, 0, 1);
        share("x;h000,63,63,63,63,63", 4, 0, 1);
        share("x;h006,01", 0, 1, 1);
        share("x;h006,01,01,01,01,01", 4, 1, 1);
        share("x;l006,01,01", 1, 1, 2);
        share("x;l006,01,01,01,01,01", 2, 1, 5);
        share("x;l536,63,49,12,01,18", 2, 5, 6);
        share("x;l536,63,49,12,01,18", 0, 2, 3);
        share("x;l125,63,30,27,12,11", 0, 29, 60);
    }

    private static void share(String text, int g, long upper, long lower) {
        TrickHouses x = Due.told(text);
        due.is("odds of " + g + ", upper, by " + text, x.odds(g, 0), upper);
        due.is("odds of " + g + ", lower, by " + text, x.odds(g, 1), lower);
    }

    // ---- 1 the way

    private static String textOf(int houses, int guests) {
        return "x" + ";l016".repeat(houses) + ",63".repeat(guests);
    }

    private static void numbersOfHousesAndGuests() {
        due.by("x, then 1 to 6 HOUSES, numbered from 0 on [..]; then 1 to 5 GUESTS, numbered from 0 on");
        for (int houses = 0; houses < 8; houses++) {
            for (int guests = 0; guests < 7; guests++) {
                String text = textOf(houses, guests);
                boolean good = houses > 0 && houses < 7 && guests > 0 && guests < 6;
                // what no text goes on with: a guest ahead of any house, house 7, the end, guest 6
                int fault = houses == 0 ? 1 : houses == 7 ? 31 : 1 + 5 * houses + (guests == 6 ? 15 : 0);
                TrickHouses x = Due.told(text);
                due.is("way by " + text, x.way(0, 0, 0, text.length()), good ? houses : -100 - fault);
                due.is("houses by " + text, x.many(0), good ? houses : 0);
                due.is("guests by " + text, x.many(1), good ? guests : 0);
                due.is("the last house by " + text, x.ofHouse(houses - 1, 0), good ? 2 : -1);
                due.is("one more house by " + text, x.ofHouse(houses, 0), -1);
                due.is("the last guest by " + text, x.gear(guests - 1), good ? 63 : -1);
                due.is("one more guest by " + text, x.gear(guests), -1);
            }
        }
    }

    private static boolean goesOn(int place, int code) {
        return switch (place) {
            case 0 -> code == 120;
            case 1 -> code == 59;
            case 2 -> code == 104 || code == 100 || code == 108;
            case 3, 4 -> code >= 48 && code <= 53;
            case 5, 7 -> code >= 48 && code <= 54;
            case 6 -> code == 44 || code == 59;
            default -> code >= 48 && code <= 57;
        };
    }

    private static void eachCodeAtEachPlace() {
        due.by("FIRST FAULT: the place (from 0 on) of the first code with which no TEXT goes on");
        for (int place = 0; place < 9; place++) {
            for (int code = -128; code < 128; code++) {
                TrickHouses x = new TrickHouses();
                Due.lay(x, 0, 0, "x;h000,00");
                x.put(0, place, code);
                // a ; at the comma's place begins another house, whose letter is missing then
                int good = place == 6 && code == 59 ? -107 : 1;
                due.is("code " + code + " at " + place, x.way(0, 0, 0, 9), goesOn(place, code) ? good : -100 - place);
            }
        }
    }

    private static void codesBeyondBytes() {
        due.by("Codes: x 120, h 104, d 100, l 108, ; 59, comma 44, digits 48 .. 57");
        String text = "x;h000,00";
        int[] away = {256, -256, 65536, -65536, 1 << 30, MIN, -1 - 2 * 120};
        for (int place = 0; place < text.length(); place++) {
            for (int far : away) {
                TrickHouses x = new TrickHouses();
                Due.lay(x, 0, 2, text);
                x.put(0, place, text.charAt(place) + far);
                due.is("as ints: " + far + " beside the code at " + place, x.way(0, 2, 0, 9), -100 - place);
                Due.lay(x, 1, 1, text);
                x.put(1, place, text.charAt(place) + 256);
                due.is("as shorts: 256 beside the code at " + place, x.way(1, 1, 0, 9), -100 - place);
                Due.lay(x, 2, 0, text);
                x.put(2, place, text.charAt(place) + 256);
                due.is("as bytes: cut to the code at " + place, x.way(2, 0, 0, 9), 1);
            }
        }
    }

    private static void secondDigitOfGear() {
        due.by("of GEAR the first digit, if none begins so, else the second");
        for (int gear = 0; gear < 100; gear++) {
            String two = "" + gear / 10 + gear % 10;
            int fault = gear >= 70 ? 7 : 8;
            TrickHouses x = Due.told("x;h000," + two);
            due.is("gear " + two, x.way(0, 0, 0, 9), gear < 64 ? 1 : -100 - fault);
            due.is("gear(0) by " + two, x.gear(0), gear < 64 ? gear : -1);
            TrickHouses y = Due.told("x;h000,00,00,00,00," + two);
            due.is("gear " + two + " of the fifth", y.way(0, 0, 0, 21), gear < 64 ? 1 : -100 - fault - 12);
            due.is("gear(4) by " + two, y.gear(4), gear < 64 ? gear : -1);
        }
        due.is("no second digit", Due.tell(new TrickHouses(), "x;h000,6"), -108);
        due.is("no second digit of 7", Due.tell(new TrickHouses(), "x;h000,7"), -107);
        due.is("no digits", Due.tell(new TrickHouses(), "x;h000,"), -107);
    }

    private static void endsTooSoon() {
        due.by("how many codes there are, if it just ends too soon");
        for (int n = 0; n <= LONGEST.length(); n++) {
            TrickHouses x = new TrickHouses();
            Due.lay(x, 0, 0, LONGEST);
            boolean whole = n > 31 && (n - 31) % 3 == 0;
            due.is(n + " codes", x.way(0, 0, 0, n), whole ? 6 : -100 - n);
            due.is("guests by " + n + " codes", x.many(1), whole ? (n - 31) / 3 : 0);
        }
        for (int houses = 1; houses < 6; houses++) {
            String text = LONGEST.substring(0, 1 + 5 * houses);
            due.is("no guest behind " + text, Due.tell(new TrickHouses(), text), -100 - text.length());
            due.is("one behind " + text, Due.tell(new TrickHouses(), text + ",63"), houses);
        }
    }

    private static void theFirstOfSeveralFaults() {
        due.by("the first code with which no TEXT goes on");
        StringBuilder text = new StringBuilder(LONGEST);
        for (int place = LONGEST.length() - 1; place >= 0; place--) {
            text.setCharAt(place, '?');
            due.is("by " + text, Due.tell(new TrickHouses(), text.toString()), -100 - place);
        }
    }

    private static void oneHouseOrGuestTooMany() {
        due.by("the ; of a seventh HOUSE, the , of a sixth GUEST");
        String six = "x;h000;d111;l222;h333;d444;l556";
        String five = ",00,09,10,60,63";
        due.is("a ; behind six", Due.tell(new TrickHouses(), six + ";"), -131);
        due.is("a seventh house", Due.tell(new TrickHouses(), six + ";h000,00"), -131);
        due.is("a , behind five", Due.tell(new TrickHouses(), six + five + ","), -146);
        due.is("a sixth guest", Due.tell(new TrickHouses(), six + five + ",00"), -146);
        due.is("a sixth guest of one house", Due.tell(new TrickHouses(), "x;h000" + five + ",00"), -121);
        due.is("a house behind guests", Due.tell(new TrickHouses(), "x;h000,00;h000"), -109);
        due.is("all of it", Due.tell(new TrickHouses(), six + five), 6);
        due.is("a code behind it", Due.tell(new TrickHouses(), six + five + "0"), -146);
    }

    private static void lettersAndKinds() {
        due.by("Kinds: 0 HOUSE (h); 1 DOUBLE (d), a HOUSE; 2 LEARNING (l), a DOUBLE");
        TrickHouses x = Due.told(LONGEST);
        for (int h = 0; h < 6; h++) {
            due.is("kind of " + h, x.ofHouse(h, 0), h % 3);
            due.is("what helps in " + h, x.ofHouse(h, 1), h);
            due.is("what helps, too, in " + h, x.ofHouse(h, 2), h);
            due.is("what " + h + " bars", x.ofHouse(h, 3), h < 5 ? h : 6);
            for (int kind = 0; kind < 3; kind++) {
                due.is("house " + h + " as " + kind, x.as(h, kind), kind <= h % 3 ? 1 : -12);
            }
        }
    }

    private static void makesAllAnew() {
        due.by("A TEXT that is taken makes all anew: no READINGS");
        TrickHouses x = Due.told("x;h006;d016,01,02");
        for (int r = 0; r < 8; r++) {
            x.reading(0, 0);
        }
        x.give(0, 63);
        x.bar(1, 0);
        due.is("the same text", x.way(0, 0, 0, 17), 2);
        due.is("readings", x.many(2), 0);
        due.is("back(1)", x.back(1), -2);
        due.is("had by none", x.had(0, 0), 64);
        due.is("the next reading", x.reading(0, 1), 0);
        due.is("gear of the text", x.gear(0), 1);
        due.is("barred by the text", x.ofHouse(1, 3), 6);
        due.is("a text that is not taken", Due.tell(x, "x;h006;d016"), -111);
        due.is("readings stay", x.many(2), 1);
        due.is("houses stay", x.many(0), 2);
        due.is("guests stay", x.many(1), 2);
    }

    private static void usefulButBarred() {
        due.by("but the kind that the HOUSE BARS (6: none)");
        for (int kind = 0; kind < 6; kind++) {
            for (int letter = 0; letter < 3; letter++) {
                TrickHouses x = Due.told("x;" + "hdl".charAt(letter) + kind + kind + "0," + "63");
                for (int bars = 0; bars < 7; bars++) {
                    x.bar(0, bars);
                    int used = bars == kind ? NONE : 1 << kind;
                    due.is("kind " + kind + ", barred " + bars, x.passes(0, 63, 0), used);
                    due.is("hard, kind " + kind + ", barred " + bars, x.hard(), bars == kind ? 0 : NONE);
                    due.is("best, kind " + kind + ", barred " + bars, x.best(-1), bars == kind ? 0 : 1);
                }
            }
        }
    }

    private static void usefulButKnown() {
        due.by("USEFUL in a HOUSE: GEAR that a PARTY (some GUESTS, all their GEAR together) has, but [..] what its host "
            + "KNOWS");
        TrickHouses x = Due.told("x;h016;d016;l016,00");
        int[][] rows = {{0, 1, 3, 1}, {1, 2, NONE, 2}, {2, 1, NONE, 1}, {3, NONE, NONE, NONE}, {60, 1, 3, 1},
            {63, NONE, NONE, NONE}, {61, 2, NONE, 2}};
        for (int[] row : rows) {
            for (int h = 0; h < 3; h++) {
                due.is("house " + h + " whose host knows " + row[0], x.passes(h, 63, row[0]), row[1 + h]);
            }
        }
    }

    /** Of kinds 5 and 0 all sets, all that is known and barred: the first is 5. */
    private static void passedAndUsed() {
        due.by("a HOUSE, if one of both that HELP is USEFUL: the first of them that is so is USED. A DOUBLE, if both are");
        int[] two = {0, 1, 32, 33};
        int[] barred = {0, 5, 6, 1};
        for (int bars : barred) {
            TrickHouses x = Due.told("x;h50" + bars + ";d50" + bars + ";l50" + bars + ",00");
            for (int set : two) {
                for (int knows : two) {
                    boolean five = set >= 32 && knows < 32 && bars != 5;
                    boolean none = set % 2 == 1 && knows % 2 == 0 && bars != 0;
                    int plain = five ? 32 : none ? 1 : NONE;
                    String told = " by " + set + ", known " + knows + ", barred " + bars;
                    due.is("a house" + told, x.passes(0, set, knows), plain);
                    due.is("a double" + told, x.passes(1, set, knows), five && none ? 33 : NONE);
                    due.is("a learning one" + told, x.passes(2, set, knows), plain);
                }
            }
        }
    }

    private static void hostsLearnWhatWasUsed() {
        due.by("its host KNOWS then what was USED. (At first hosts KNOW nothing; others never do.)");
        TrickHouses x = Due.told("x;h016;d016;l016;l106,63,63,63");
        Due.row(x, 7, 0, 7, 1, 7, 2, 7, 3);
        int[] once = {0, 0, 1, 2};
        for (int h = 0; h < 4; h++) {
            due.is("nobody came to " + h, x.visits(1, 2, 0, 0, 10 + h), 0);
            due.is("one visit of " + h, x.visits(1, 2, 0, 4, 10 + h), once[h]);
        }
        Due.row(x, 1, 2, 1, 2, 2, 2, 4, 0, 4, 0, 4, 1, 4, 1);
        due.is("lost where both are known", x.visits(1, 2, 0, 7, 0), 2);
        due.is("by the third visit", x.visits(1, 2, 0, 7, 1), 2);
        due.is("both are known", x.visits(1, 2, 0, 7, 12), 3);
        due.is("a house never knows", x.visits(1, 2, 0, 7, 10), 0);
        due.is("a double never knows", x.visits(1, 2, 0, 7, 11), 0);
        due.is("not visited", x.visits(1, 2, 0, 7, 13), 0);
        due.is("no such house", x.visits(1, 2, 0, 7, 14), NONE);
    }

    // ---- 2 visits, goings

    private static void lostAlready() {
        due.by("those of a PARTY who are LOST already count no more (their GEAR is LOST, too; if none is left, "
            + "nothing comes of it)");
        TrickHouses x = Due.told("x;h556;d016;l016,01,02,03,32");
        Due.row(x, 1, 0, 3, 1, 1, 2, 3, 2, 5, 2, 0, 0, 0, 1);
        due.is("1 is lost, too, without the gear of 0", x.visits(1, 2, 0, 2, 0), 3);
        due.is("0 was the first", x.visits(1, 2, 0, 2, 1), 0);
        due.is("the lost teach nothing", x.visits(1, 2, 0, 4, 12), 0);
        due.is("the lost are lost but once", x.visits(1, 2, 0, 4, 0), 3);
        due.is("one of the party is left", x.visits(1, 2, 0, 5, 0), 3);
        due.is("he teaches", x.visits(1, 2, 0, 5, 12), 1);
        due.is("a party of nobody is never lost", x.visits(1, 2, 10, 2, 0), 0);
        due.is("a party of nobody, the first", x.visits(1, 2, 10, 2, 1), NONE);
        Due.row(x, 0, 0, 1, 0);
        due.is("nobody, then one: the first", x.visits(1, 2, 0, 2, 1), 1);
    }

    private static void allOfThePartyAreLost() {
        due.by("if the HOUSE is not PASSED, all of the PARTY are LOST");
        TrickHouses x = Due.told("x;d016;h556,01,04,08,16,00");
        Due.row(x, 31, 0);
        due.is("all five", x.visits(1, 2, 0, 1, 0), 31);
        Due.row(x, 14, 1, 17, 0);
        due.is("three, then two", x.visits(1, 2, 0, 2, 0), 31);
        due.is("three", x.visits(1, 2, 0, 1, 0), 14);
        due.is("by the first", x.visits(1, 2, 0, 2, 1), 0);
    }

    private static void goingTillLost() {
        due.by("each goes by himself through all HOUSES by numbers, till he is LOST in one");
        TrickHouses x = Due.told("x;l016;h336;l226,05,14,13");
        Due.row(x, 0, 1, 0, 2);
        due.is("what lies behind is not used up", x.going(1, 2, 0, 2, 0), 2);
        due.is("lost in the second", x.going(1, 2, 0, 2, 10), 1);
        due.is("what he used ahead is known", x.going(1, 2, 2, 2, 0), 0);
        due.is("so the next is lost in the first", x.going(1, 2, 2, 2, 12), 0);
        TrickHouses y = Due.told("x;h006;h006;h006;h006;h006;h116,01,02,03");
        Due.row(y, 0, 1, 2);
        due.is("lost in the last", y.going(1, 2, 0, 3, 10), 5);
        due.is("lost in the first", y.going(1, 2, 0, 3, 11), 0);
        due.is("lost in none", y.going(1, 2, 0, 3, 12), NONE);
        due.is("who comes through", y.going(1, 2, 0, 3, 0), 4);
    }

    private static void eachByHimself() {
        due.by("A GOING of an order of GUESTS (some of them, each but once): one behind another");
        TrickHouses x = Due.told("x;d016,01,02,03,03,03");
        Due.row(x, 0, 1, 4, 3, 2);
        due.is("none", x.going(1, 2, 0, 0, 0), 0);
        due.is("two have no gear together", x.going(1, 2, 0, 2, 0), 0);
        due.is("all", x.going(1, 2, 0, 5, 0), 28);
        due.is("some", x.going(1, 2, 1, 3, 0), 24);
        due.is("the last", x.going(1, 2, 4, 1, 0), 4);
        TrickHouses y = Due.told("x;l006,01,01");
        Due.row(y, 1, 0);
        due.is("the order tells who", y.going(1, 2, 0, 2, 0), 2);
        due.is("hosts know nothing at first", y.going(1, 2, 1, 1, 0), 1);
        Due.row(y, 0, 1);
        due.is("turned", y.going(1, 2, 0, 2, 0), 1);
    }

    // ---- 3 the least, the best

    private static void least() {
        due.by("the fewest kinds of GEAR by which one alone PASSES each HOUSE (hosts KNOW nothing), as a set: "
            + "of several the least");
        due.is("the least of two", Due.told("x;h456,00").least(), 16);
        due.is("turned", Due.told("x;h546,00").least(), 16);
        due.is("one kind, not two lesser ones", Due.told("x;h056;h156;h256,00").least(), 32);
        due.is("the least of pairs", Due.told("x;h016;h236,00").least(), 5);
        due.is("all six", Due.told("x;d016;d236;d456,00").least(), 63);
        due.is("six learning ones alike", Due.told("x;l556;l556;l556;l556;l556;l556,00").least(), 32);
        due.is("barred, so the other", Due.told("x;h010,00").least(), 2);
        due.is("none", Due.told("x;h016;h016;h016;h016;h016;h000,63").least(), NONE);
        due.is("what guests have is all one", Due.told("x;h016,00,63").least(), 1);
    }

    private static void hard() {
        due.by("HARD: the first HOUSE that can't be PASSED by all GEAR");
        due.is("none", Due.told("x;d016;h016;l006,00").hard(), NONE);
        due.is("the first of two", Due.told("x;h016;d010;h000,63").hard(), 1);
        due.is("the last of six", Due.told("x;h016;h016;h016;h016;h016;l333,63").hard(), 5);
        due.is("the first of six", Due.told("x;d151;h016;h016;h016;h016;l333,63").hard(), 0);
        TrickHouses x = Due.told("x;l006;l006,01");
        due.is("hosts know nothing", x.hard(), NONE);
        x.bar(1, 0);
        due.is("barred later", x.hard(), 1);
    }

    private static void bestIs(String text, int most, int... order) {
        TrickHouses x = Due.told(text);
        due.is("best(-1) by " + text, x.best(-1), most);
        for (int k = 0; k < order.length; k++) {
            due.is("best(" + k + ") by " + text, x.best(k), order[k]);
        }
        due.is("best(" + order.length + ") by " + text, x.best(order.length), NONE);
    }

    private static void best() {
        due.by("BEST: the order of all GUESTS by whose GOING the most come through: of several the first as a row");
        bestIs("x;h000,63", 0, 0);
        bestIs("x;h000,63,63,63,63,63", 0, 0, 1, 2, 3, 4);
        bestIs("x;h006,01,01,01,01,01", 5, 0, 1, 2, 3, 4);
        bestIs("x;l016,03,01", 2, 1, 0);
        // guests 0 to 2 are lost anyway, and would use up what 4, then 3 need
        bestIs("x;l016;h226,03,03,03,07,05", 2, 4, 3, 0, 1, 2);
        bestIs("x;l016;h226,07,05,03,03,03", 2, 1, 0, 2, 3, 4);
    }

    private static void twosAre(String text, int most, int... mates) {
        TrickHouses x = Due.told(text);
        due.is("twos(-1) by " + text, x.twos(-1), most);
        for (int g = 0; g < mates.length; g++) {
            due.is("twos(" + g + ") by " + text, x.twos(g), mates[g]);
        }
    }

    private static void twos() {
        due.by("the way by which the most come through; of several the one of the fewest PARTIES, then the first as "
            + "a row of MATES by GUESTS (the MATE of one alone is himself)");
        twosAre("x;h006,01", 1, 0);
        twosAre("x;h000,63,63", 0, 1, 0);
        twosAre("x;h006,01,01,01,01,01", 5, 0, 2, 1, 4, 3);
        twosAre("x;d016;d236,01,04,15,11,14", 5, 4, 3, 2, 1, 0);
        // 0 with 1 comes through, 2 and 3 are lost by twos or each alone: two parties are fewer than three
        twosAre("x;l006,01,01,01,01", 2, 1, 0, 3, 2);
        // two parties either way, so the first row
        twosAre("x;l016,03,01,02", 3, 0, 2, 1);
        // 0 must go alone, as 1 or 2 with him would use up what 1 with 3 needs: three parties, but more come
        twosAre("x;l116;d016,00,02,02,01", 2, 0, 3, 2, 1);
        due.by("PARTIES of one or two, that go, by their least numbers, one behind another through all HOUSES (each "
            + "by itself; LOST together)");
        // 0 with 3 goes ahead of 1, who is lost in the end, but would use up kind 1
        twosAre("x;l116;h226,02,02,00,04", 2, 3, 2, 1, 0);
    }

    private static void giftIs(String text, int gift, int come) {
        TrickHouses x = Due.told(text);
        due.is("gift(0) by " + text, x.gift(0), gift);
        due.is("gift(1) by " + text, x.gift(1), come);
    }

    private static void gift() {
        due.by("one kind of GEAR more to one GUEST (who has it not) by which the most come through as all go by "
            + "numbers, more than now: of several the least GUEST, then kind");
        giftIs("x;h016,00,00,00,00,00", 0, 1);
        giftIs("x;h106,00", 0, 1);
        giftIs("x;h556,32,32,32,32,31", 45, 5);
        giftIs("x;h555,63", NONE, 0);
        giftIs("x;h556,31,31,31,31,31", 5, 1);
        giftIs("x;h006,63,63,63,63,63", NONE, 5);
        giftIs("x;h006,01,01,01,01,01", NONE, 5);
        giftIs("x;d016,00,00", NONE, 0);
        // as many as now are no gift: the first would take from the second
        giftIs("x;l006,00,01", NONE, 1);
        // a gift to the first brings one through; to the second, who then spares kind 1, two
        giftIs("x;l210;l326,09,02,11", 12, 2);
    }

    private static void worstIs(String text, int kind, int come) {
        TrickHouses x = Due.told(text);
        due.is("worst(0) by " + text, x.worst(0), kind);
        due.is("worst(1) by " + text, x.worst(1), come);
    }

    private static void worst() {
        due.by("WORST: one kind that all HOUSES BAR, too, by which the fewest come through: of several the least");
        worstIs("x;h556,63", 5, 0);
        worstIs("x;h006,63", 0, 0);
        worstIs("x;h016,63,63,63,63,63", 0, 5);
        worstIs("x;h000,63", 0, 0);
        worstIs("x;h456,16,16,32,32,32", 5, 2);
        worstIs("x;h456,16,16,48,32,32", 4, 3);
        // barred 1 already: 0 besides, so that none is left
        worstIs("x;h101,63", 0, 0);
        worstIs("x;h546;h454,63,63", 5, 0);
        worstIs("x;l016;h226,07,05", 2, 0);
    }

    // ---- 4 what was seen

    private static void eightReadings() {
        due.by("READINGS, 8 at most, numbered by how many there are");
        TrickHouses x = Due.told("x;h006,01");
        for (int r = 0; r < 8; r++) {
            due.is("reading " + r, x.reading(0, NONE), r);
        }
        due.is("a ninth", x.reading(0, NONE), -4);
        due.is("many(2)", x.many(2), 8);
        due.is("back(8)", x.back(8), 0);
        due.is("the first again", x.reading(0, 0), 0);
        due.is("back(0)", x.back(0), 1);
        due.is("the second", x.reading(0, 0), 1);
    }

    private static void had() {
        due.by("HAD of a GUEST: sets of GEAR, in place of his own, by which all READINGS are so: how many; the least");
        TrickHouses x = Due.told("x;d016;d236;d456,00");
        due.is("without readings", x.had(0, 0), 64);
        due.is("the least of all", x.had(0, 1), 0);
        x.reading(0, NONE);
        due.is("one set", x.had(0, 0), 1);
        due.is("the last of all", x.had(0, 1), 63);
        due.is("his own stays", x.gear(0), 0);
        x.reading(0, 2);
        due.is("no set", x.had(0, 0), 0);
        due.is("the least of none", x.had(0, 1), NONE);
        x.back(2);
        x.reading(0, 2);
        due.is("lost in the last", x.had(0, 0), 3);
        due.is("the least of three", x.had(0, 1), 15);
        x.back(1);
        x.reading(0, 0);
        due.is("lost in the first", x.had(0, 0), 48);
        for (int r = 1; r < 7; r++) {
            x.reading(0, 0);
        }
        x.reading(0, 1);
        due.is("the eighth counts, too", x.had(0, 0), 0);
    }

    private static void kinds() {
        due.by("KINDS of a HOUSE: those (0 .. 2), in place of its own, by which all READINGS are so, as a set");
        TrickHouses x = Due.told("x;h016,01,03,01");
        due.is("without readings", x.kinds(0), 7);
        x.reading(0, 0);
        due.is("a double", x.kinds(0), 2);
        x.back(1);
        x.reading(2, NONE);
        due.is("a house", x.kinds(0), 1);
        x.reading(2, 0);
        due.is("none", x.kinds(0), 0);
        x.back(2);
        x.reading(0, NONE);
        x.reading(2, 0);
        due.is("a learning one", x.kinds(0), 4);
        x.back(1);
        due.is("a house, a learning one", x.kinds(0), 5);
        due.is("its own stays", x.ofHouse(0, 0), 0);
        TrickHouses y = Due.told("x;h006;h006;h006;h006;h006;h016,03");
        y.reading(0, NONE);
        due.is("the last of six", y.kinds(5), 7);
    }

    private static void odds() {
        due.by("if the order of all GUESTS is drawn by lots, all alike: the share of those by whose GOING he comes "
            + "through");
        share("x;l016,01,02,03,03,63", 0, 1, 4);
        share("x;l016,01,02,03,03,63", 1, 9, 20);
        share("x;l006;l116,03,03,03", 2, 1, 3);
        share("x;l006;h116,03,01", 0, 1, 2);
        share("x;l006;h116,03,01", 1, 0, 1);
        share("x;h006,01,00", 0, 1, 1);
    }

    // ---- 5 sheets, telling

    private static void sheetsAndRows() {
        due.by("SHEETS 0 .. 3 have nothing (at first), or a row of 0 .. 60 numbers (0 at first)");
        int[] lengths = {0, 1, 60};
        for (int k = 0; k < 4; k++) {
            TrickHouses x = new TrickHouses();
            due.is("sheet " + k + " has nothing", x.lose(k), 0);
            for (int length : lengths) {
                for (int lane = 0; lane < 3; lane++) {
                    due.is("a row of " + length, x.sheet(k, lane, length), 1);
                    due.is("its last cell", x.cell(k, length - 1, lane), length > 0 ? 0 : Due.LOST);
                    due.is("beyond its last cell", x.cell(k, length, lane), Due.LOST);
                    due.is("fault()", x.fault(), 3);
                    due.is("put to its last cell", x.put(k, length - 1, 5), length > 0 ? 1 : -13);
                    due.is("put beyond it", x.put(k, length, 5), -13);
                }
            }
            due.is("a row of 61", x.sheet(k, 0, 61), -2);
            due.is("the old row stays", x.cell(k, 59, 2), 5);
            x.sheet(k, 2, 60);
            due.is("a new row is of 0", x.cell(k, 59, 2), 0);
        }
    }

    private static void cutToTheLane() {
        due.by("0 bytes, 1 shorts, 2 ints; what comes to a cell of it is cut to its LANE");
        int[] numbers = {0, 1, -1, 127, 128, -128, -129, 255, 256, 257, 32767, 32768, -32768, -32769, 65535, 65536,
            65537, MAX, MIN, MAX - 1, MIN + 1};
        TrickHouses x = new TrickHouses();
        for (int lane = 0; lane < 3; lane++) {
            x.sheet(lane, lane, 1);
        }
        for (int number : numbers) {
            for (int lane = 0; lane < 3; lane++) {
                // reckoned, not cast: what lies in the lane's range, wholes of it away
                long range = lane == 0 ? 256 : lane == 1 ? 65536 : 1L << 32;
                long cut = Math.floorMod(number + range / 2, range) - range / 2;
                x.put(lane, 0, number);
                due.is(number + " in lane " + lane, x.cell(lane, 0, lane), cut);
            }
        }
    }

    private static void bodiesAndTrace() {
        due.by("bodies that leave their number in TRACE (an int that wraps, 0 at first, becomes 31 times it and the "
            + "number) as they begin");
        TrickHouses x = Due.told("x;h010;d015;l016,00");
        due.is("trace() at first", x.trace(), 0);
        due.is("a house that bars 0", x.tell(0), 0);
        due.is("trace()", x.trace(), 1);
        due.is("a double that bars 5", x.tell(1), 105);
        due.is("trace()", x.trace(), (1 * 31 + 2) * 31 + 1);
        TrickHouses y = Due.told("x;h010;d015;l016,00");
        due.is("a learning one that bars none", y.tell(2), 112);
        due.is("trace()", y.trace(), ((3 * 31 + 2) * 31 + 1) * 31 + 1);
        TrickHouses z = Due.told("x;h010;d015;l016,00");
        due.is("knocked at a house", z.knock(0), 0);
        due.is("trace()", z.trace(), 4);
        due.is("knocked at a double", z.knock(1), 1);
        due.is("trace()", z.trace(), 4 * 31 + 4);
        due.is("knocked at a learning one", z.knock(2), 80);
        due.is("trace()", z.trace(), (4 * 31 + 4) * 31 + 5);
    }

    private static void traceWraps() {
        due.by("TRACE (an int that wraps");
        TrickHouses x = Due.told("x;h010,00");
        java.math.BigInteger sum = java.math.BigInteger.ZERO;
        boolean wrapped = false;
        for (int k = 0; k < 30; k++) {
            x.knock(0);
            sum = sum.multiply(java.math.BigInteger.valueOf(31)).add(java.math.BigInteger.valueOf(4));
            due.is("trace() behind " + (k + 1), x.trace(), sum.intValue());
            wrapped = wrapped || x.trace() < 0;
        }
        due.holds("it came below 0", wrapped);
    }
}
