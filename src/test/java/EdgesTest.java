/**
 * Promises 1 to 31: a test of its own for each sentence that names a bound, where the call answers. Where it
 * refuses, or comes to a fault, is in RefusalsTest; what the terms bound is in TermsTest.
 */
public final class EdgesTest {
    private static final Due due = new Due("EdgesTest");
    private static final int MAX = Integer.MAX_VALUE;
    private static final int NONE = -9;
    private static final String LEAST_TEXT = "x;h000,00";
    private static final String LONGEST = "x;h000;d111;l222;h333;d444;l556,00,09,10,60,63";

    public static void main(String[] args) {
        upTo512Calls();
        promise1();
        promise2();
        promise3();
        promises4And5();
        promise6();
        promise7();
        promise8();
        promise8ByTwenty();
        promise8PairByPair();
        promise9();
        promises10And11();
        promise12();
        promise13();
        promise14();
        promise15();
        promise16();
        promise17();
        promise18();
        promise19();
        promise20();
        promise21();
        promise22();
        promises23And24();
        promise25();
        promise25Overlapping();
        promises26And27();
        promise28();
        promise29();
        promise30();
        promise31();
        due.end();
    }

    private static void upTo512Calls() {
        due.by("An object is used for at most 512 calls after it has been made");
        TrickHouses x = new TrickHouses();
        x.sheet(0, 0, 9);
        for (int p = 0; p < 9; p++) {
            x.put(0, p, LEAST_TEXT.charAt(p));
        }
        x.way(0, 0, 0, 9);
        int sum = 0;
        for (int call = 12; call < 512; call++) {
            x.knock(0);
            sum = 31 * sum + 4;
        }
        due.is("the 512th call", x.trace(), sum);
        TrickHouses y = new TrickHouses();
        for (int call = 1; call < 512; call++) {
            due.is("sheet, call " + call, y.sheet(call % 4, call % 3, call % 61), 1);
        }
        due.is("cell, call 512", y.cell(511 % 4, 511 % 61 - 1, 511 % 3), 0);
    }

    private static void promise1() {
        due.by("No WAY (no HOUSES, GUESTS), SHEETS have nothing");
        TrickHouses x = new TrickHouses();
        for (int what = 0; what < 3; what++) {
            due.is("many(" + what + ")", x.many(what), 0);
        }
        for (int k = 0; k < 4; k++) {
            for (int lane = 0; lane < 3; lane++) {
                due.is("cell of sheet " + k, x.cell(k, 0, lane), Due.LOST);
                due.is("fault()", x.fault(), 1);
            }
            due.is("lose(" + k + ")", x.lose(k), 0);
        }
        due.is("least()", x.least(), -3);
        due.is("trace()", x.trace(), 0);
        TrickHouses y = Due.told(LONGEST);
        y.knock(0);
        TrickHouses z = new TrickHouses();
        due.is("another object's way is not its own", z.many(0), 0);
        due.is("another object's sheet is not its own", z.lose(0), 0);
        due.is("another object's trace is not its own", z.trace(), 0);
    }

    private static void promise2() {
        due.by("A WAY by a TEXT of n cells of a SHEET from i on, taken as a row of a LANE: how many HOUSES");
        for (int k = 0; k < 4; k++) {
            for (int lane = 0; lane < 3; lane++) {
                TrickHouses x = new TrickHouses();
                Due.lay(x, k, lane, "?".repeat(14) + LONGEST);
                due.is("at the end of sixty cells", x.way(k, lane, 14, 46), 6);
                due.is("one cell sooner", x.way(k, lane, 13, 47), -100);
                due.is("all cells", x.way(k, lane, 0, 60), -100);
                Due.lay(x, k, lane, LONGEST + "?".repeat(14));
                due.is("at the beginning", x.way(k, lane, 0, 46), 6);
                due.is("one code more", x.way(k, lane, 0, 47), -146);
                due.is("all cells", x.way(k, lane, 0, 60), -146);
                due.is("but for the last guest", x.way(k, lane, 0, 43), 6);
                due.is("guests then", x.many(1), 4);
            }
        }
        TrickHouses y = Due.told(LONGEST);
        y.sheet(0, 0, 60);
        due.is("the way stays as the sheet is made anew", y.many(0), 6);
        y.lose(0);
        due.is("and as it is lost", y.gear(4), 63);
    }

    private static void promise3() {
        due.by("Of a HOUSE: 0 kind, 1 what HELPS, 2 what HELPS, too, 3 what it BARS");
        TrickHouses x = Due.told("x;h056;h500;h000;h550;d343;l434,00");
        int[][] want = {{0, 0, 5, 6}, {0, 5, 0, 0}, {0, 0, 0, 0}, {0, 5, 5, 0}, {1, 3, 4, 3}, {2, 4, 3, 4}};
        for (int h = 0; h < 6; h++) {
            for (int what = 0; what < 4; what++) {
                due.is(Call.told("ofHouse", h, what), x.ofHouse(h, what), want[h][what]);
            }
        }
    }

    private static void promises4And5() {
        due.by("GEAR of a GUEST becomes a set (0 .. 63): what it was");
        TrickHouses x = Due.told(LONGEST);
        int[] told = {0, 9, 10, 60, 63};
        for (int g = 0; g < 5; g++) {
            due.is(Call.told("gear", g), x.gear(g), told[g]);
            due.is(Call.told("give", g, 63), x.give(g, 63), told[g]);
            due.is(Call.told("give", g, 0), x.give(g, 0), 63);
            due.is(Call.told("give", g, 0) + " again", x.give(g, 0), 0);
            due.is(Call.told("gear", g), x.gear(g), 0);
            due.is("the next is not touched", x.gear(g + 1), g < 4 ? told[g + 1] : -1);
        }
    }

    private static void promise6() {
        due.by("A HOUSE BARS a kind (0 .. 5; 6: none): what it BARRED");
        TrickHouses x = Due.told(LONGEST);
        for (int h = 0; h < 6; h++) {
            int before = h < 5 ? h : 6;
            for (int kind = 0; kind < 7; kind++) {
                due.is(Call.told("bar", h, kind), x.bar(h, kind), before);
                due.is(Call.told("ofHouse", h, 3), x.ofHouse(h, 3), kind);
                before = kind;
            }
            due.is("the next is not touched", x.ofHouse(h + 1, 3), h < 4 ? h + 1 : h < 5 ? 6 : -1);
        }
    }

    private static void promise7() {
        due.by("by GEAR, as a set, as its host KNOWS another set (0 .. 63): what is USED, as a set; NONE");
        TrickHouses x = Due.told("x;h056;d056;l056,00");
        int[][] rows = {{0, 0, NONE, NONE}, {63, 0, 1, 33}, {63, 63, NONE, NONE}, {0, 63, NONE, NONE},
            {63, 62, 1, NONE}, {63, 31, 32, NONE}, {63, 30, 1, 33}, {33, 0, 1, 33}, {32, 1, 32, NONE}};
        for (int[] row : rows) {
            due.is(Call.told("passes", 0, row[0], row[1]), x.passes(0, row[0], row[1]), row[2]);
            due.is(Call.told("passes", 1, row[0], row[1]), x.passes(1, row[0], row[1]), row[3]);
            due.is(Call.told("passes", 2, row[0], row[1]), x.passes(2, row[0], row[1]), row[2]);
        }
    }

    private static void promise8() {
        due.by("GUESTS that are LOST, as a set (what 0), the first by which somebody was (1; NONE), what the host of "
            + "HOUSE k KNOWS at the end, as a set (10 and k; NONE: there is no such HOUSE)");
        TrickHouses x = Due.told("x;l006;l116;l226;l336;l446;l556,63,00");
        Due.row(x, 1, 0, 1, 1, 1, 2, 1, 3, 1, 4, 1, 5, 2, 5);
        for (int h = 0; h < 6; h++) {
            due.is("host " + h + " at the end", x.visits(1, 2, 0, 6, 10 + h), 1 << h);
            due.is("host " + h + " of no visits", x.visits(1, 2, 14, 0, 10 + h), 0);
        }
        due.is("nobody is lost", x.visits(1, 2, 0, 6, 0), 0);
        due.is("by none", x.visits(1, 2, 0, 6, 1), NONE);
        due.is("one is lost", x.visits(1, 2, 0, 7, 0), 2);
        due.is("by the last", x.visits(1, 2, 0, 7, 1), 6);
        due.is("by the first", x.visits(1, 2, 12, 1, 1), 0);
        TrickHouses y = Due.told(LEAST_TEXT);
        y.sheet(1, 2, 0);
        due.is("the only host", y.visits(1, 2, 0, 0, 10), 0);
        for (int what = 11; what < 16; what++) {
            due.is("no such house: " + what, y.visits(1, 2, 0, 0, what), NONE);
        }
        due.by("pair by pair OUTSIDE: a PARTY has a bit of no GUEST; UNKNOWN: HOUSE");
        for (int g = 0; g < 31; g++) {
            Due.row(y, 1 << g, 0);
            due.is("a party of guest " + g, y.visits(1, 2, 0, 1, 0), g == 0 ? 1 : -2);
        }
        int[][] pairs = {{0, 0, 0}, {1, 0, 1}, {2, 0, -2}, {3, 0, -2}, {-1, 0, -2}, {Integer.MIN_VALUE, 0, -2},
            {0, 1, -1}, {0, -1, -1}, {0, MAX, -1}, {2, 1, -2}, {1, 6, -1}};
        for (int[] pair : pairs) {
            Due.row(y, pair[0], pair[1]);
            due.is("a pair of " + pair[0] + ", " + pair[1], y.visits(1, 2, 0, 1, 0), pair[2]);
        }
    }

    private static void promise8ByTwenty() {
        due.by("VISITS of n such pairs, that are cells of a SHEET from i on (2 n) [..] n (0 .. 20)");
        for (int lane = 0; lane < 3; lane++) {
            TrickHouses x = Due.told("x;h006;h116,01,02");
            x.sheet(2, lane, 60);
            for (int p = 20; p < 60; p += 2) {
                x.put(2, p, 1);
            }
            due.is("twenty at the end", x.visits(2, lane, 20, 20, 0), 0);
            x.put(2, 59, 1);
            due.is("lost by the twentieth", x.visits(2, lane, 20, 20, 0), 1);
            due.is("its number", x.visits(2, lane, 20, 20, 1), 19);
            due.is("nineteen", x.visits(2, lane, 20, 19, 0), 0);
            due.is("twenty from one cell on", x.visits(2, lane, 21, 20, 0), -13);
            due.is("twenty-one", x.visits(2, lane, 18, 21, 0), -2);
        }
    }

    private static void promise8PairByPair() {
        due.by("pair by pair OUTSIDE: a PARTY has a bit of no GUEST; UNKNOWN: HOUSE");
        for (int k = 0; k < 20; k++) {
            TrickHouses x = Due.told("x;h006;h006,01,01");
            int[] cells = new int[40];
            for (int p = 0; p < 40; p++) {
                cells[p] = p % 2 == 0 ? 3 : 1;
            }
            cells[2 * k] = 4;
            Due.row(x, cells);
            due.is("the party of pair " + k, x.visits(1, 2, 0, 20, 0), -2);
            due.is("the pairs ahead of it", x.visits(1, 2, 0, k, 0), 0);
            x.put(1, 2 * k + 1, 2);
            due.is("its house, too", x.visits(1, 2, 0, 20, 0), -2);
            x.put(1, 2 * k, 3);
            due.is("its house", x.visits(1, 2, 0, 20, 0), -1);
            x.put(1, 39, 2);
            x.put(1, 38, k == 19 ? 3 : 4);
            due.is("the last pair, too", x.visits(1, 2, 0, 20, 0), -1);
            x.put(1, 2 * k + 1, k == 19 ? 2 : 1);
            due.is("the last pair alone", x.visits(1, 2, 0, 20, 0), k == 19 ? -1 : -2);
        }
    }

    private static void promise9() {
        due.by("who comes through, as a set (what 0), in which HOUSE GUEST g was LOST (10 and g; NONE: in none, he "
            + "did not go, there is no such GUEST)");
        TrickHouses x = Due.told("x;h006;h116;h226,07,03,01,00");
        Due.row(x, 3, 2, 1, 0);
        int[] lost = {NONE, 2, 1, 0, NONE};
        for (int g = 0; g < 5; g++) {
            due.is("all go: " + g, x.going(1, 2, 0, 4, 10 + g), lost[g]);
            due.is("none goes: " + g, x.going(1, 2, 4, 0, 10 + g), NONE);
            due.is("0 and 1 go: " + g, x.going(1, 2, 2, 2, 10 + g), g < 2 ? lost[g] : NONE);
        }
        due.is("who of all", x.going(1, 2, 0, 4, 0), 1);
        due.is("who of the lost", x.going(1, 2, 0, 3, 0), 0);
        due.by("UNKNOWN: a GUEST (twice: so, too)");
        int[][] orders = {{0, 0}, {3, 0, 3}, {0, 1, 2, 3, 0}, {4}, {-1}, {MAX}, {32}, {0, 1, 2, 3, 4}, {-9}};
        for (int[] order : orders) {
            Due.row(x, order);
            due.is("an order of " + order.length, x.going(1, 2, 0, order.length, 0), -1);
            due.is("but for the last", x.going(1, 2, 0, order.length - 1, 14), NONE);
        }
        for (int lane = 0; lane < 3; lane++) {
            x.sheet(2, lane, 60);
            x.put(2, 59, 256 * 256 + 256);
            int cut = lane == 0 ? 1 : lane == 1 ? 256 : 0;
            due.is("the last of sixty cells", x.going(2, lane, 59, 1, 0), cut == 1 ? 1 : -1);
            due.is("sixty cells", x.going(2, lane, 0, 60, 0), -1);
        }
    }

    private static void promises10And11() {
        due.by("LEAST, as a set; NONE. [..] HARD; NONE: there is none");
        TrickHouses x = Due.told("x;d016;d236;d456,00");
        due.is("least()", x.least(), 63);
        due.is("hard()", x.hard(), NONE);
        x.bar(2, 5);
        due.is("least() of none", x.least(), NONE);
        due.is("hard()", x.hard(), 2);
        x.bar(0, 0);
        due.is("hard(), the first", x.hard(), 0);
        x.bar(0, 6);
        x.bar(2, 0);
        due.is("least() again", x.least(), 63);
    }

    private static void promise12() {
        due.by("how many come through (k -1), its k-th GUEST (0 on); NONE: there are fewer");
        for (int guests = 1; guests < 6; guests++) {
            TrickHouses x = Due.told("x;h006" + ",01".repeat(guests));
            due.is("best(-1) of " + guests, x.best(-1), guests);
            for (int k = 0; k < 6; k++) {
                due.is("best(" + k + ") of " + guests, x.best(k), k < guests ? k : NONE);
            }
            due.is("best far behind", x.best(MAX), NONE);
            due.is("best(-2)", x.best(-2), -1);
        }
    }

    private static void promise13() {
        due.by("how many come through (g -1), the MATE of a GUEST. UNKNOWN: g is not -1, no GUEST");
        for (int guests = 1; guests < 6; guests++) {
            TrickHouses x = Due.told("x;h006" + ",01".repeat(guests));
            due.is("twos(-1) of " + guests, x.twos(-1), guests);
            // of an odd number the first stays alone
            int alone = guests % 2;
            for (int g = 0; g < guests; g++) {
                int mate = g < alone ? g : (g - alone ^ 1) + alone;
                due.is("twos(" + g + ") of " + guests, x.twos(g), mate);
            }
            due.is("one guest more", x.twos(guests), -1);
            due.is("twos(-2)", x.twos(-2), -1);
        }
    }

    private static void promise14() {
        due.by("10 times the GUEST, and the kind (what 0; NONE: by none more do), how many come through then (1; as "
            + "now)");
        for (int g = 0; g < 5; g++) {
            for (int kind = 0; kind < 6; kind++) {
                TrickHouses x = Due.told("x;h" + kind + kind + "6,63,63,63,63,63");
                due.is("gift(0) of none", x.gift(0), NONE);
                due.is("gift(1) as now", x.gift(1), 5);
                x.give(g, 63 - (1 << kind));
                due.is("gift(0)", x.gift(0), 10 * g + kind);
                due.is("gift(1)", x.gift(1), 5);
                x.bar(0, kind);
                due.is("gift(0) that is barred", x.gift(0), NONE);
                due.is("gift(1) as now", x.gift(1), 0);
            }
        }
    }

    private static void promise15() {
        due.by("the kind (what 0), how many come through then (1)");
        for (int kind = 0; kind < 6; kind++) {
            TrickHouses x = Due.told("x;h" + kind + kind + "6,63,63,63,63,63");
            due.is("worst(0)", x.worst(0), kind);
            due.is("worst(1)", x.worst(1), 0);
            x.give(0, 0);
            x.bar(0, kind);
            due.is("worst(0) where all are lost", x.worst(0), 0);
            due.is("worst(1) where all are lost", x.worst(1), 0);
        }
        TrickHouses y = Due.told("x;h016;h236;h456,63,63,63,63,63");
        due.is("worst(0) where none is lost", y.worst(0), 0);
        due.is("worst(1) where none is lost", y.worst(1), 5);
    }

    private static void promise16() {
        due.by("A READING: its number (h NONE: he came through). UNKNOWN: GUEST, HOUSE; FULL");
        TrickHouses x = Due.told("x;h006;h116,00,01,03");
        int[][] good = {{0, 0}, {1, 1}, {2, NONE}, {0, 0}, {1, 1}, {2, NONE}, {0, 0}, {2, NONE}};
        for (int r = 0; r < 8; r++) {
            due.is(Call.told("reading", good[r]), x.reading(good[r][0], good[r][1]), r);
            due.is("many(2)", x.many(2), r + 1);
            // a host who learns would have stopped the third guest
            due.is("they are so", x.kinds(0), r < 2 ? 7 : 3);
        }
        due.is("a ninth", x.reading(0, 0), -4);
        due.is("a ninth of no guest", x.reading(3, 0), -1);
        due.is("a ninth of no house", x.reading(0, 2), -1);
        due.is("none of them changed", x.had(2, 0), 16);
    }

    private static void promise17() {
        due.by("The last k READINGS (0 .. as many as there are) are taken back: how many are left");
        for (int there = 0; there < 9; there++) {
            for (int k = -1; k < 10; k++) {
                TrickHouses x = Due.told("x;h006,01");
                for (int r = 0; r < there; r++) {
                    x.reading(0, r == 0 ? 0 : NONE);
                }
                boolean good = k >= 0 && k <= there;
                int left = good ? there - k : there;
                due.is("back(" + k + ") of " + there, x.back(k), good ? left : -2);
                due.is("many(2)", x.many(2), left);
                // the first reading alone tells that he was lost, the others clash with it
                due.is("those that are left", x.had(0, 0), left == 0 ? 64 : left == 1 ? 32 : 0);
            }
        }
    }

    private static void promise18() {
        due.by("HAD: how many (what 0), the least (1; NONE)");
        TrickHouses x = Due.told("x;h556,00,00,00,00,32");
        x.reading(4, NONE);
        for (int g = 0; g < 4; g++) {
            due.is("any set of " + g, x.had(g, 0), 64);
            due.is("the least of these", x.had(g, 1), 0);
        }
        due.is("half of all sets", x.had(4, 0), 32);
        due.is("the least of these", x.had(4, 1), 32);
        x.reading(4, 0);
        for (int g = 0; g < 5; g++) {
            due.is("no set of " + g, x.had(g, 0), 0);
            due.is("the least of none", x.had(g, 1), NONE);
        }
    }

    private static void promise19() {
        due.by("KINDS, as a set");
        TrickHouses x = Due.told("x;h016;h016;h016;h016;h016;l016,01,01,02");
        for (int h = 0; h < 6; h++) {
            due.is("without readings, " + h, x.kinds(h), 7);
        }
        x.reading(0, NONE);
        x.reading(1, 5);
        x.reading(2, NONE);
        for (int h = 0; h < 6; h++) {
            due.is("by three readings, " + h, x.kinds(h), h < 5 ? 1 : 4);
            due.is("its own stays", x.ofHouse(h, 0), h < 5 ? 0 : 2);
        }
        x.reading(0, 5);
        for (int h = 0; h < 6; h++) {
            due.is("by readings that clash, " + h, x.kinds(h), 0);
        }
    }

    private static void promise20() {
        due.by("ODDS (which 0 the upper, 1 the lower number)");
        for (int guests = 1; guests < 6; guests++) {
            for (int g = 0; g < guests; g++) {
                TrickHouses x = Due.told("x;l006" + ",01".repeat(guests));
                due.is("upper of " + guests, x.odds(g, 0), 1);
                due.is("lower of " + guests, x.odds(g, 1), guests);
                x.give(g, 0);
                due.is("upper of one who is lost", x.odds(g, 0), 0);
                due.is("lower of one who is lost", x.odds(g, 1), 1);
            }
        }
    }

    private static void promise21() {
        due.by("A SHEET gets a new row: 1. UNKNOWN; OUTSIDE: lane, n above 60; SIZE");
        int[][] rows = {{-1, -14}, {0, 1}, {1, 1}, {59, 1}, {60, 1}, {61, -2}, {MAX, -2}, {Integer.MIN_VALUE, -14}};
        for (int lane = 0; lane < 3; lane++) {
            for (int[] row : rows) {
                TrickHouses x = new TrickHouses();
                due.is("a row of " + row[0], x.sheet(3, lane, row[0]), row[1]);
                due.is("fault()", x.fault(), row[1] == -14 ? 4 : 0);
                due.is("lose(3)", x.lose(3), row[1] == 1 ? 1 : 0);
            }
        }
        TrickHouses x = new TrickHouses();
        Due.fill(x, 0, 2, 7, 7, 7);
        x.sheet(0, 2, 1);
        due.is("a shorter row", x.cell(0, 1, 2), Due.LOST);
        x.sheet(0, 2, 3);
        for (int p = 0; p < 3; p++) {
            due.is("a new row is of 0", x.cell(0, p, 2), 0);
        }
        x.sheet(0, 0, 3);
        due.is("of a new lane", x.cell(0, 0, 2), Due.LOST);
        due.is("fault()", x.fault(), 2);
    }

    private static void promise22() {
        due.by("A SHEET has nothing: 1; 0: it had nothing");
        for (int k = 0; k < 4; k++) {
            TrickHouses x = new TrickHouses();
            for (int other = 0; other < 4; other++) {
                x.sheet(other, 2, 60);
            }
            due.is("lose", x.lose(k), 1);
            due.is("lose again", x.lose(k), 0);
            due.is("cell", x.cell(k, 0, 2), Due.LOST);
            due.is("fault()", x.fault(), 1);
            due.is("the next one stays", x.lose((k + 1) % 4), 1);
            x.sheet(k, 0, 0);
            due.is("an empty row is not nothing", x.lose(k), 1);
            x.sheet(k, 2, 1);
            due.is("a row again, of 0", x.cell(k, 0, 2), 0);
        }
    }

    private static void promises23And24() {
        due.by("Cell i of a SHEET becomes v: 1. [..] Cell i of what a SHEET has, taken as a row of a LANE");
        for (int k = 0; k < 4; k++) {
            for (int lane = 0; lane < 3; lane++) {
                TrickHouses x = new TrickHouses();
                x.sheet(k, lane, 60);
                int[] ends = {0, 59};
                for (int i : ends) {
                    due.is(Call.told("put", k, i, -100), x.put(k, i, -100), 1);
                    due.is(Call.told("cell", k, i, lane), x.cell(k, i, lane), -100);
                }
                due.is("its neighbour", x.cell(k, 1, lane), 0);
                due.is("the other neighbour", x.cell(k, 58, lane), 0);
                due.is("put(.., 60, ..)", x.put(k, 60, 1), -13);
                due.is("cell(.., 60, ..)", x.cell(k, 60, lane), Due.LOST);
                x.sheet(k, lane, 1);
                due.is("the only cell", x.put(k, 0, 9), 1);
                due.is("the only cell", x.cell(k, 0, lane), 9);
                due.is("behind it", x.put(k, 1, 9), -13);
                x.sheet(k, lane, 0);
                due.is("no cell", x.put(k, 0, 9), -13);
                due.is("no cell", x.cell(k, 0, lane), Due.LOST);
                due.is("fault()", x.fault(), 3);
            }
        }
    }

    private static void promise25() {
        due.by("n cells of a SHEET from i on go to another one (perhaps the same) from j on, as they were: n");
        for (int lane = 0; lane < 3; lane++) {
            TrickHouses x = new TrickHouses();
            Due.fill(x, 0, lane, 1, 2, 3);
            x.sheet(1, lane, 60);
            due.is("to the end", x.copy(0, 0, 1, 57, 3), 3);
            due.is("one too far", x.copy(0, 0, 1, 58, 3), -13);
            due.is("from the end", x.copy(1, 59, 0, 0, 1), 1);
            rowIs(x, 0, lane, 3, 2, 3);
            due.is("sixty", x.copy(1, 0, 1, 0, 60), 60);
            due.is("the last", x.cell(1, 59, lane), 3);
            due.is("none", x.copy(0, 3, 1, 60, 0), 0);
            due.is("none, from beyond", x.copy(0, 4, 1, 60, 0), -13);
            due.is("none, to beyond", x.copy(0, 3, 1, 61, 0), -13);
            x.sheet(2, lane, 0);
            due.is("none of an empty row", x.copy(2, 0, 2, 0, 0), 0);
            due.is("one of an empty row", x.copy(2, 0, 0, 0, 1), -13);
            due.is("one to an empty row", x.copy(0, 0, 2, 0, 1), -13);
            rowIs(x, 0, lane, 3, 2, 3);
        }
    }

    private static void promise25Overlapping() {
        due.by("(perhaps the same) from j on, as they were");
        for (int i = 0; i < 6; i++) {
            for (int j = 0; j < 6; j++) {
                for (int n = 0; n <= 5 - Math.max(i, j); n++) {
                    TrickHouses x = new TrickHouses();
                    Due.row(x, 1, 2, 3, 4, 5);
                    due.is(Call.told("copy", 1, i, 1, j, n), x.copy(1, i, 1, j, n), n);
                    for (int p = 0; p < 5; p++) {
                        int want = p >= j && p < j + n ? p - j + i + 1 : p + 1;
                        due.is("cell " + p + " behind " + Call.told("copy", 1, i, 1, j, n), x.cell(1, p, 2), want);
                    }
                }
            }
        }
    }

    private static void rowIs(TrickHouses x, int k, int lane, int... want) {
        for (int p = 0; p < want.length; p++) {
            due.is("sheet " + k + ", cell " + p, x.cell(k, p, lane), want[p]);
        }
    }

    private static void promises26And27() {
        due.by("TELLING of a HOUSE. [..] How one KNOCKS at it");
        TrickHouses x = Due.told("x;h000;d000;l000;h000;d000;l000,00");
        int trace = 0;
        int[][] tells = {{1}, {2, 1}, {3, 2, 1, 1}};
        for (int h = 0; h < 6; h++) {
            for (int bars = 0; bars < 7; bars += 6) {
                x.bar(h, bars);
                int[] want = {bars, 100 + bars, 100 + bars + bars};
                due.is("tell(" + h + "), barred " + bars, x.tell(h), want[h % 3]);
                for (int number : tells[h % 3]) {
                    trace = 31 * trace + number;
                }
                due.is("trace()", x.trace(), trace);
            }
            due.is("knock(" + h + ")", x.knock(h), h % 3 == 2 ? 80 : h);
            trace = 31 * trace + (h % 3 == 2 ? 5 : 4);
            due.is("trace()", x.trace(), trace);
        }
    }

    private static void promise28() {
        due.by("CAST: it is none (each is a HOUSE, too; a LEARNING one is DOUBLE)");
        TrickHouses x = Due.told(LONGEST);
        int[][] want = {{1, -12, -12}, {1, 1, -12}, {1, 1, 1}};
        for (int h = 0; h < 6; h++) {
            for (int kind = 0; kind < 3; kind++) {
                due.is(Call.told("as", h, kind), x.as(h, kind), want[h % 3][kind]);
                due.is("fault()", x.fault(), want[h % 3][kind] == 1 ? 0 : 2);
            }
            due.is("it stays what it was", x.ofHouse(h, 0), h % 3);
        }
    }

    private static void promise29() {
        due.by("TRACE");
        TrickHouses x = Due.told(LONGEST);
        due.is("trace() at first", x.trace(), 0);
        x.passes(0, 63, 0);
        x.as(2, 1);
        x.kinds(2);
        due.is("trace() behind other calls", x.trace(), 0);
        x.tell(9);
        x.knock(9);
        due.is("trace() behind refused calls", x.trace(), 0);
        x.knock(0);
        due.is("trace()", x.trace(), 4);
        due.is("trace() again", x.trace(), 4);
        due.is("a text is taken", Due.tell(x, LEAST_TEXT), 1);
        x.lose(0);
        due.is("trace() stays", x.trace(), 4);
    }

    private static void promise30() {
        due.by("The FAULT of the latest call that names one: 0: it came to none, or was refused (0 ahead of any)");
        TrickHouses x = new TrickHouses();
        due.is("ahead of any", x.fault(), 0);
        x.put(0, 0, 0);
        due.is("NULL", x.fault(), 1);
        x.many(0);
        x.trace();
        x.gear(0);
        x.lose(0);
        x.lose(9);
        x.odds(0, 0);
        due.is("calls that name none, refused", x.fault(), 1);
        due.is("asked again", x.fault(), 1);
        x.sheet(0, 0, 2);
        due.is("came to none", x.fault(), 0);
        x.cell(0, 0, 1);
        due.is("CAST", x.fault(), 2);
        x.cell(0, 0, 3);
        due.is("refused", x.fault(), 0);
        x.put(0, 2, 0);
        due.is("INDEX", x.fault(), 3);
        x.way(0, 0, 0, -1);
        due.is("SIZE", x.fault(), 4);
        x.way(0, 0, 0, 2);
        due.is("a text's first fault is none", x.fault(), 0);
        x.sheet(0, 0, -1);
        x.visits(0, 0, 0, 1, 0);
        due.is("refused by STATE", x.fault(), 0);
        x.sheet(0, 0, -1);
        x.going(0, 0, 0, 1, 0);
        due.is("refused by STATE", x.fault(), 0);
        x.sheet(0, 0, -1);
        x.as(0, 0);
        due.is("refused by UNKNOWN", x.fault(), 0);
        x.sheet(0, 0, -1);
        x.copy(0, 0, 0, 0, 0);
        due.is("came to none", x.fault(), 0);
        Due.tell(x, LONGEST);
        x.sheet(3, 0, -1);
        String[] others = {"least", "hard", "trace"};
        for (String name : others) {
            Call.on(x, name);
            due.is("fault() behind " + name, x.fault(), 4);
        }
        String[] ofOne = {"gear", "best", "twos", "gift", "worst", "kinds", "lose", "tell", "knock", "many", "back"};
        for (String name : ofOne) {
            Call.on(x, name, 0);
            due.is("fault() behind " + name, x.fault(), 4);
        }
        String[] ofTwo = {"ofHouse", "give", "bar", "reading", "had", "odds"};
        for (String name : ofTwo) {
            Call.on(x, name, 0, 0);
            due.is("fault() behind " + name, x.fault(), 4);
        }
        x.passes(0, 0, 0);
        due.is("fault() behind passes", x.fault(), 4);
    }

    private static void promise31() {
        due.by("How many: 0 HOUSES, 1 GUESTS, 2 READINGS (0 all without a WAY)");
        TrickHouses x = new TrickHouses();
        for (int what = 0; what < 3; what++) {
            due.is("many(" + what + ") without a way", x.many(what), 0);
        }
        Due.tell(x, LONGEST);
        due.is("the most houses", x.many(0), 6);
        due.is("the most guests", x.many(1), 5);
        for (int r = 0; r < 9; r++) {
            x.reading(0, 0);
        }
        due.is("the most readings", x.many(2), 8);
        Due.tell(x, LEAST_TEXT);
        due.is("the fewest houses", x.many(0), 1);
        due.is("the fewest guests", x.many(1), 1);
        due.is("no readings", x.many(2), 0);
    }
}
