/** Terms, section 3, what section 4 says of coins and of houses beside each other, and promises 17 to 26. */
final class HouseEdges {
    private static final int MIN = Edge.MIN;
    private static final int MAX = Edge.MAX;
    /** What is no HOUSE of Scenes.RICH, which has 0 to 4. */
    private static final int[] NO_HOUSES = {MIN, -1, 5, 7, 8, MAX};

    private HouseEdges() {
    }

    static void all() {
        whatAHouseHas();
        whenItCounts();
        balances();
        longBalances();
        itsBalance();
        whatItSays();
        moreAndBack();
        greatestLimit();
        inOrder();
        sharedTerm();
        besideTerm();
        house();
        houseOf();
        since();
        order();
        saying();
        beside();
        shared();
        line();
        show();
        moved();
    }

    private static WarmGlass eightCells() {
        WarmGlass x = new WarmGlass();
        for (int i = 0; i < 8; i++) {
            x.cell(4, 99010000, 100, 9999);
        }
        return x;
    }

    /** A HOUSE by GAS back on a cold CELL; each HOUR of POWER 0 counts 5 times its LOSS. */
    private static WarmGlass coldHouse(int loss, int limit) {
        WarmGlass x = Scenes.cold();
        x.house(1000 * loss + 100, limit);
        return x;
    }

    private static void whatAHouseHas() {
        Edge.sentence(0, "HOUSES 0, 1, .. (at most 8): each has a CELL, a LOSS that it believes (1 to 99), GAS as it takes it"
            + " (0: all of it is gone, 1: all of it comes back), whether it CHOOSES (1, 0), a LIMIT (1 to 99999), a LINE (0"
            + " at first; 0 to 999).");
        WarmGlass x = eightCells();
        int[][] rows = {{1000, 1, 0, 1, 0, 0}, {99117, 99999, 7, 99, 1, 1}, {1106, 2, 6, 1, 1, 0}, {99015, 99998, 5, 99, 0, 1},
            {50104, 50000, 4, 50, 1, 0}, {2013, 9, 3, 2, 0, 1}, {98112, 8, 2, 98, 1, 1}, {10001, 7, 1, 10, 0, 0}};
        for (int i = 0; i < 8; i++) {
            Edge.due("HOUSE " + i, x.house(rows[i][0], rows[i][1]), i);
        }
        Edge.due("a ninth", x.house(1000, 1), Check.FULL);
        for (int i = 0; i < 8; i++) {
            for (int what = 0; what <= 3; what++) {
                Edge.due("houseOf(" + i + ", " + what + ")", x.houseOf(i, what), rows[i][2 + what]);
            }
            Edge.due("LIMIT of " + i, x.houseOf(i, 4), rows[i][1]);
            Edge.due("LINE of " + i + " at first", x.show(i), 0);
        }
        Edge.due("the most of LINE", x.line(7, 999), 0);
        Edge.due("it is so", x.show(7), 999);
        Edge.due("the least of LINE", x.line(7, 0), 999);
    }

    private static WarmGlass choosing(String choice) {
        WarmGlass x = Scenes.cold();
        x.house(1010, 99999);
        x.house(1000, 99999);
        Check.told(x, choice, 1);
        return x;
    }

    private static void counted(String choice, int n, int want) {
        WarmGlass x = choosing(choice);
        x.hours(n);
        Edge.due("HOURS of " + n + " by " + choice, x.houseOf(0, 5), want);
        Edge.due("HOURS of one that doesn't CHOOSE", x.houseOf(1, 5), n);
    }

    private static void whenItCounts() {
        Edge.sentence(0, "When an HOUR has gone, by numbers: it counts, if it doesn't CHOOSE, or CHOICE of its CELL isn't 0 (h:"
            + " the HOUR that has gone; else as all is now):");
        counted("0", 5, 0);
        counted("1", 5, 5);
        counted("less(0,1)", 5, 5);
        counted("h", 1, 0);
        counted("h", 2, 1);
        counted("less(h,4)", 4, 4);
        counted("less(h,4)", 5, 4);
        counted("less(h,4)", 6, 5);
        counted("less(t,5)", 3, 0);
        counted("t", 3, 3);
        counted("c", 3, 0);
        WarmGlass x = Scenes.cold();
        x.house(1010, 99999);
        x.hours(3);
        Edge.due("without CHOICE", x.houseOf(0, 5), 3);
        // An HOUR takes the last of WATER: behind it w and p are 0.
        for (String choice : new String[] {"w", "p"}) {
            WarmGlass y = new WarmGlass();
            y.cell(4, 99010100, 100, 1);
            y.house(1010, 99999);
            Check.told(y, choice, 1);
            y.hours(1);
            Edge.due(choice + " as all is now", y.houseOf(0, 5), 0);
        }
        WarmGlass z = new WarmGlass();
        z.cell(0, 99010000, 0, 1);
        z.cell(0, 99010000, 0, 1);
        z.house(1010, 99999);
        z.house(1011, 99999);
        Check.told(z, "c", 1);
        z.hours(2);
        Edge.due("of its CELL, the first", z.houseOf(0, 5), 0);
        Edge.due("of its CELL, the other", z.houseOf(1, 5), 2);
    }

    private static void balances() {
        Edge.sentence(0, "HOURS of it are one more, and of both BALANCES, that by GAS gone: READ times its LOSS less (POWER, as"
            + " it counted in that HOUR, less GAS of it), and that by GAS back: READ times its LOSS less that POWER.");
        // READ 60 behind the first HOUR; then WATER is out, and READ is 48.
        WarmGlass x = new WarmGlass();
        x.cell(0, 10021000, 25, 3);
        x.house(1000, 99999);
        x.house(99100, 99999);
        Edge.due("HOURS at first", x.houseOf(0, 5), 0);
        Edge.due("BALANCE at first", x.houseOf(0, 6), 0);
        x.hours(1);
        Edge.due("HOURS", x.houseOf(0, 5), 1);
        Edge.due("by GAS gone", x.houseOf(0, 8), 60 - 750);
        Edge.due("by GAS back", x.houseOf(0, 7), 60 - 1000);
        Edge.due("by GAS gone, LOSS 99", x.houseOf(1, 8), 60 * 99 - 750);
        Edge.due("by GAS back, LOSS 99", x.houseOf(1, 7), 60 * 99 - 1000);
        x.hours(1);
        Edge.due("POWER as it counted: none", x.houseOf(0, 8), 60 - 750 + 48);
        Edge.due("of both", x.houseOf(0, 7), 60 - 1000 + 48);
        Edge.due("HOURS of two", x.houseOf(0, 5), 2);
        // GAS of 250, whatever of it comes back: READ 80 of a COUNTED one.
        WarmGlass y = new WarmGlass();
        y.cell(5, 10021000, 25, 9);
        y.house(1000, 99999);
        y.hours(1);
        Edge.due("of a COUNTED one", y.houseOf(0, 6), 80 - 750);
        // GAS of 109 is cut: 333 less 109.
        WarmGlass z = new WarmGlass();
        z.cell(4, 99010333, 33, 9);
        z.house(1000, 99999);
        z.hours(1);
        Edge.due("GAS that is cut", z.houseOf(0, 6), 6 - 224);
        // An HOUR that isn't counted leaves both.
        WarmGlass c = choosing("h");
        c.hours(1);
        Edge.due("not counted", c.houseOf(0, 8), 0);
        Edge.due("counted by the other", c.houseOf(1, 8), 5);
        c.hours(1);
        Edge.due("counted", c.houseOf(0, 8), 5);
    }

    /** BALANCES of 2000 HOURS go beyond an int. */
    private static void longBalances() {
        WarmGlass x = new WarmGlass();
        x.cell(1, 99019999, 0, 9999);
        Check.law(x, "9999", 0);
        x.force(0);
        x.house(99000, 99999);
        x.house(98000, 99999);
        long heat = 0;
        long first = 0;
        long other = 0;
        for (int i = 0; i < 2000; i++) {
            heat += 19998;
            heat -= heat / 99;
            long read = heat / 99 + heat / 99 / 10;
            first += read * 99 - 9999;
            other += read * 98 - 9999;
        }
        for (int i = 0; i < 20; i++) {
            x.hours(100);
        }
        Edge.due("it is beyond an int", first > MAX ? 1 : 0, 1);
        Edge.due("ITS BALANCE", x.houseOf(0, 6), first);
        Edge.due("the other's", x.houseOf(1, 6), other);
        Edge.due("beside", x.beside(0, 1), 1);
        Edge.due("beside, the other way", x.beside(1, 0), -1);
        long part = 999999 * first / (first + other);
        long rest = 999999 * first % (first + other);
        long otherRest = 999999 * other % (first + other);
        Edge.due("shared", x.shared(999999, 0), rest >= otherRest && rest > 0 ? part + 1 : part);
        Edge.due("all are shared", x.shared(999999, 0) + x.shared(999999, 1), 999999);
    }

    private static void itsBalance() {
        Edge.sentence(0, "ITS BALANCE is the one by GAS as it takes it.");
        WarmGlass x = new WarmGlass();
        x.cell(0, 10021000, 25, 30);
        x.house(1000, 99999);
        x.house(1100, 99999);
        x.hours(1);
        Edge.due("gone", x.houseOf(0, 6), -690);
        Edge.due("back", x.houseOf(1, 6), -940);
        // By GAS gone it is 5 of its LOSS; by GAS back it is less: only the first says MORE.
        WarmGlass y = Scenes.cold();
        y.house(1000, 5);
        y.house(1100, 5);
        Scenes.hourOf(y, 1);
        Edge.due("who says MORE", y.saying(1), 1);
    }

    private static void whatItSays() {
        Edge.sentence(0, "It SAYS 0 nothing, 1 MORE, 2 taken back.");
        WarmGlass x = coldHouse(1, 5);
        Edge.due("at first", x.houseOf(0, 9), 0);
        x.hours(1);
        Edge.due("MORE", x.houseOf(0, 9), 1);
        Scenes.hourOf(x, 10);
        Edge.due("taken back", x.houseOf(0, 9), 2);
    }

    private static void moreAndBack() {
        Edge.sentence(0, "Whether it counted or not: if it SAID nothing and ITS BALANCE is LIMIT or more: MORE, from this HOUR"
            + " (that has gone); if it SAID MORE and ITS BALANCE is 0 or less: taken back (it stays so).");
        WarmGlass less = coldHouse(1, 6);
        less.hours(1);
        Edge.due("LIMIT less 1", less.houseOf(0, 9), 0);
        less.hours(1);
        Edge.due("above LIMIT", less.houseOf(0, 9), 1);
        Edge.due("from HOUR 1", less.since(0, 0), 1);
        WarmGlass x = coldHouse(1, 5);
        x.hours(1);
        Edge.due("just LIMIT", x.houseOf(0, 9), 1);
        Edge.due("from HOUR 0", x.since(0, 0), 0);
        Scenes.hourOf(x, 9);
        Edge.due("1", x.houseOf(0, 6), 1);
        Edge.due("below LIMIT, above 0: MORE", x.houseOf(0, 9), 1);
        Scenes.hourOf(x, 5);
        Edge.due("1 still", x.houseOf(0, 9), 1);
        Scenes.hourOf(x, 6);
        Edge.due("0", x.houseOf(0, 6), 0);
        Edge.due("taken back", x.houseOf(0, 9), 2);
        Edge.due("in HOUR 3", x.since(0, 1), 3);
        Edge.due("MORE from HOUR 0", x.since(0, 0), 0);
        Scenes.hourOf(x, 0);
        x.hours(50);
        Edge.due("above LIMIT again", x.houseOf(0, 6), 255);
        Edge.due("it stays so", x.houseOf(0, 9), 2);
        Edge.due("in HOUR 3 still", x.since(0, 1), 3);
        WarmGlass below = coldHouse(1, 5);
        below.hours(1);
        Scenes.hourOf(below, 11);
        Edge.due("-1", below.houseOf(0, 6), -1);
        Edge.due("taken back below 0", below.houseOf(0, 9), 2);
        WarmGlass never = coldHouse(1, 1);
        Scenes.hourOf(never, 5);
        Edge.due("0 at first: nothing", never.houseOf(0, 9), 0);
        Scenes.hourOf(never, 15);
        Edge.due("-10: nothing", never.houseOf(0, 9), 0);
        Scenes.hourOf(never, 0);
        Scenes.hourOf(never, 0);
        Edge.due("0 again: nothing", never.houseOf(0, 9), 0);
        Scenes.hourOf(never, 4);
        Edge.due("1 of LIMIT 1", never.houseOf(0, 9), 1);
        Edge.due("from HOUR 4", never.since(0, 0), 4);
        WarmGlass chooses = choosing("less(1,h)");
        chooses.hours(9);
        Edge.due("HOURS that don't count leave what it SAYS", chooses.houseOf(0, 9), 0);
    }

    private static void greatestLimit() {
        WarmGlass x = coldHouse(99, 99999);
        x.hours(100);
        x.hours(100);
        x.hours(2);
        Scenes.hourOf(x, 487);
        Edge.due("99998", x.houseOf(0, 6), 99998);
        Edge.due("the most of LIMIT less 1", x.houseOf(0, 9), 0);
        Scenes.hourOf(x, 494);
        Edge.due("the most of LIMIT", x.houseOf(0, 9), 1);
        Edge.due("from HOUR 203", x.since(0, 0), 203);
    }

    /** HOUSE 3 says MORE in HOUR 0, HOUSES 0, 2 in HOUR 1, HOUSE 1 in HOUR 2, HOUSE 4 never. */
    private static WarmGlass five() {
        WarmGlass x = Scenes.cold();
        int[] limits = {10, 15, 6, 5, 99999};
        for (int limit : limits) {
            x.house(1100, limit);
        }
        x.hours(3);
        return x;
    }

    private static void inOrder() {
        Edge.sentence(0, "ORDER: HOUSES that SAY MORE, or took it back, by the HOUR in which they said it, of like ones by"
            + " numbers.");
        int[] want = {3, 0, 2, 1, Check.NONE};
        WarmGlass x = five();
        for (int i = 0; i < want.length; i++) {
            Edge.due("MORE, order(" + i + ")", x.order(i), want[i]);
        }
        Scenes.hourOf(x, 20);
        Edge.due("all took it back", x.saying(2), 15);
        for (int i = 0; i < want.length; i++) {
            Edge.due("taken back, order(" + i + ")", x.order(i), want[i]);
        }
        WarmGlass y = Scenes.cold();
        for (int i = 0; i < 8; i++) {
            y.house(1100, 5);
        }
        y.hours(1);
        for (int i = 0; i < 8; i++) {
            Edge.due("of like ones, order(" + i + ")", y.order(i), i);
        }
        Edge.due("no ninth", y.order(8), Check.NONE);
    }

    /** HOUSES on a cold CELL that all say MORE behind an HOUR, by BALANCES of 5 times these. */
    private static WarmGlass sharing(int... losses) {
        WarmGlass x = Scenes.cold();
        for (int loss : losses) {
            x.house(1000 * loss + 100, 1);
        }
        x.hours(1);
        return x;
    }

    private static void gets(WarmGlass x, int coins, int... want) {
        for (int i = 0; i < want.length; i++) {
            Edge.due("of " + coins + " HOUSE " + i, x.shared(coins, i), want[i]);
        }
    }

    private static void sharedTerm() {
        Edge.sentence(0, "SHARED: COINS (0 to 999999) among HOUSES that SAY MORE, by ITS BALANCES (those above 0): each COINS"
            + " times its BALANCE by all of these, cut; what is left one by one to those of the greatest rests, of like ones"
            + " the least number.");
        WarmGlass alike = sharing(1, 1, 1);
        gets(alike, 0, 0, 0, 0);
        gets(alike, 1, 1, 0, 0);
        gets(alike, 2, 1, 1, 0);
        gets(alike, 3, 1, 1, 1);
        gets(alike, 10, 4, 3, 3);
        gets(alike, 11, 4, 4, 3);
        gets(alike, 999999, 333333, 333333, 333333);
        gets(alike, 999998, 333333, 333333, 333332);
        gets(sharing(7), 999999, 999999);
        gets(sharing(7), 0, 0);
        WarmGlass least = Scenes.cold();
        least.house(1100, 1);
        least.house(1100, 1);
        Scenes.hourOf(least, 4);
        gets(least, 1, 1, 0);
        gets(least, 3, 2, 1);
        // By 5, 10, 20 of 35.
        WarmGlass apart = sharing(1, 2, 4);
        gets(apart, 1, 0, 0, 1);
        gets(apart, 3, 0, 1, 2);
        gets(apart, 10, 1, 3, 6);
        gets(apart, 7, 1, 2, 4);
        gets(apart, 999999, 142857, 285714, 571428);
        gets(apart, 999998, 142857, 285714, 571427);
        gets(sharing(4, 2, 1), 10, 6, 3, 1);
        gets(sharing(1, 1, 1, 1, 1, 1, 1, 1), 999999, 125000, 125000, 125000, 125000, 125000, 125000, 125000, 124999);
        // By 4950 and 4900: the rests are 5600 and 4250.
        WarmGlass great = sharing(99, 98);
        great.hours(9);
        gets(great, 999999, 502538, 497461);
        // Who says nothing, or took it back, gets none, even with a BALANCE above 0.
        WarmGlass some = Scenes.cold();
        some.house(1100, 99999);
        some.house(2100, 10);
        some.house(9100, 10);
        some.hours(1);
        Scenes.hourOf(some, 20);
        Scenes.hourOf(some, 0);
        Scenes.hourOf(some, 0);
        Edge.due("it took it back", some.houseOf(1, 9), 2);
        Edge.due("with a BALANCE above 0", some.houseOf(1, 6), 20);
        gets(some, 7, 0, 0, 7);
    }

    private static void besideTerm() {
        Edge.sentence(0, "BESIDE: of two HOUSES which has more BALANCE an HOUR: BALANCE of the first times HOURS of the other"
            + " less that of the other times HOURS of the first: 1 above 0, 0, -1 below.");
        WarmGlass x = coldHouse(1, 99999);
        Scenes.hourOf(x, 1);
        x.house(1100, 99999);
        x.house(1100, 99999);
        Scenes.hourOf(x, 0);
        // 9 of 2 HOURS, 5 of 1, 5 of 1.
        Edge.due("5 * 2 - 9 * 1", x.beside(1, 0), 1);
        Edge.due("9 * 1 - 5 * 2", x.beside(0, 1), -1);
        Edge.due("5 * 1 - 5 * 1", x.beside(1, 2), 0);
        Scenes.hourOf(x, 6);
        Scenes.hourOf(x, 6);
        // 7 of 4 HOURS, 3 of 3.
        Edge.due("7 * 3 - 3 * 4", x.beside(0, 1), 1);
        Scenes.hourOf(x, 100);
        // -88 of 5 HOURS, -92 of 4.
        Edge.due("below 0", x.beside(1, 0), -1);
        Edge.due("below 0, the other way", x.beside(0, 1), 1);
        WarmGlass y = coldHouse(3, 99999);
        y.hours(7);
        y.house(3100, 99999);
        y.hours(2);
        Edge.due("as much an HOUR of 9 and of 2", y.beside(0, 1), 0);
    }

    private static void house() {
        Edge.sentence(17, "A new HOUSE; of is 1000 * LOSS + 100 * (GAS as it takes it) + 10 * CHOOSES + CELL: its number.");
        Edge.answers("the first", Scenes::cold, x -> x.house(1000, 1), 0);
        Edge.answers("the sixth", Scenes.RICH, x -> x.house(99115, 99999), 5);
        Edge.answers("of the last CELL", HouseEdges::eightCells, x -> x.house(99117, 99999), 0);
        WarmGlass y = eightCells();
        y.house(23117, 456);
        int[] want = {7, 23, 1, 1, 456, 0, 0, 0, 0, 0};
        for (int what = 0; what <= 9; what++) {
            Edge.due("houseOf(0, " + what + ")", y.houseOf(0, what), want[what]);
        }
        Edge.sentence(17, "BEYOND: of, limit.");
        for (Edge.Scene scene : new Edge.Scene[] {Scenes.RICH, Scenes.FULL}) {
            Edge.refusedEach("of below 0", scene, Check.BEYOND, (x, v) -> x.house(v, 1), MIN, -99111, -1000, -1);
            Edge.refusedEach("LOSS", scene, Check.BEYOND, (x, v) -> x.house(v, 1), 0, 10, 100, 110, 100000, 100110, MAX);
            Edge.refusedEach("GAS", scene, Check.BEYOND, (x, v) -> x.house(v, 1), 1200, 1900, 99200);
            Edge.refusedEach("CHOOSES", scene, Check.BEYOND, (x, v) -> x.house(v, 1), 1020, 1090, 99120);
            Edge.refusedEach("CELL", scene, Check.BEYOND, (x, v) -> x.house(v, 1), 1008, 1009);
            Edge.refusedEach("limit", scene, Check.BEYOND, (x, v) -> x.house(1000, v), MIN, -1, 0, 100000, MAX);
        }
        Edge.refusedEach("no such CELL", Scenes.RICH, Check.BEYOND, (x, v) -> x.house(v, 1), 1006, 1007);
        Edge.refused("of no CELLS", Scenes.EMPTY, Check.BEYOND, x -> x.house(1000, 1));
        Edge.sentence(17, "FULL.");
        Edge.refused("a ninth", Scenes.FULL, Check.FULL, x -> x.house(1000, 1));
        WarmGlass z = Scenes.RICH.make();
        for (int i = 5; i < 8; i++) {
            Edge.due("HOUSE " + i, z.house(1000, 1), i);
        }
        Edge.due("no more", z.house(1000, 1), Check.FULL);
        z.undo();
        Edge.due("with room again", z.house(1000, 1), 4);
    }

    private static void houseOf() {
        Edge.sentence(18, "Of a HOUSE: what 0 CELL, 1 LOSS, 2 GAS as it takes it, 3 CHOOSES, 4 LIMIT, 5 HOURS that it counted, 6"
            + " ITS BALANCE, 7 the lesser, 8 the greater of both BALANCES, 9 what it SAYS.");
        WarmGlass x = new WarmGlass();
        x.cell(0, 1010000, 0, 0);
        x.cell(0, 10021000, 25, 30);
        x.house(13101, 30);
        x.house(13011, 31);
        x.hours(1);
        // READ 60 times 13 is 780, less 1000 or less 750.
        long[][] want = {{1, 13, 1, 0, 30, 1, -220, -220, 30, 0}, {1, 13, 0, 1, 31, 1, 30, -220, 30, 0}};
        for (int h = 0; h < 2; h++) {
            for (int what = 0; what <= 9; what++) {
                Edge.due("houseOf(" + h + ", " + what + ")", x.houseOf(h, what), want[h][what]);
            }
        }
        Edge.due("a HOUSE of LIMIT 30 by GAS gone", sayingBy(30), 1);
        Edge.due("a HOUSE of LIMIT 31 by GAS gone", sayingBy(31), 0);
        Edge.sentence(18, "BEYOND.");
        Edge.refusedEach("house", Scenes.RICH, Check.BEYOND, (y, h) -> y.houseOf(h, 0), NO_HOUSES);
        Edge.refusedEach("what", Scenes.RICH, Check.BEYOND, (y, what) -> y.houseOf(0, what), MIN, -1, 10, MAX);
        Edge.refused("of no HOUSES", Scenes.EMPTY, Check.BEYOND, y -> y.houseOf(0, 0));
    }

    private static long sayingBy(int limit) {
        WarmGlass x = new WarmGlass();
        x.cell(0, 10021000, 25, 30);
        x.house(13000, limit);
        x.hours(1);
        return x.houseOf(0, 9);
    }

    private static void since() {
        Edge.sentence(19, "Since which HOUR a HOUSE SAID MORE (0), took it back (1).");
        WarmGlass x = coldHouse(1, 1);
        Scenes.hourOf(x, 5);
        Scenes.hourOf(x, 0);
        Edge.due("MORE", x.since(0, 0), 1);
        x.hours(2);
        Edge.due("MORE still", x.since(0, 0), 1);
        Scenes.hourOf(x, 20);
        Edge.due("MORE still, though taken back", x.since(0, 0), 1);
        Edge.due("taken back", x.since(0, 1), 4);
        WarmGlass last = CellEdges.at(1999);
        last.cell(4, 99010000, 0, 1);
        last.house(1001, 5);
        last.hours(1);
        Edge.due("in the last HOUR", last.since(1, 0), 1999);
        Edge.sentence(19, "BEYOND.");
        Edge.refusedEach("house", Scenes.RICH, Check.BEYOND, (y, h) -> y.since(h, 0), NO_HOUSES);
        Edge.refusedEach("what", Scenes.RICH, Check.BEYOND, (y, what) -> y.since(0, what), MIN, -1, 2, MAX);
        Edge.refusedEach("what, ahead of NONE", Scenes.RICH, Check.BEYOND, (y, what) -> y.since(2, what), -1, 2);
        Edge.sentence(19, "NONE: it didn't.");
        Edge.refused("it said nothing", Scenes.RICH, Check.NONE, y -> y.since(2, 0));
        Edge.refused("nor took it back", Scenes.RICH, Check.NONE, y -> y.since(2, 1));
        Edge.refused("it says MORE", Scenes.RICH, Check.NONE, y -> y.since(1, 1));
        Edge.answersAlone("it says MORE", Scenes.RICH, y -> y.since(1, 0), 0);
        Edge.answersAlone("it took it back", Scenes.RICH, y -> y.since(0, 1), 1);
    }

    private static void order() {
        Edge.sentence(20, "The i-th HOUSE (from 0) of ORDER.");
        Edge.answersAlone("the first", HouseEdges::five, x -> x.order(0), 3);
        Edge.answersAlone("the last", HouseEdges::five, x -> x.order(3), 1);
        Edge.sentence(20, "BEYOND: i below 0.");
        Edge.refusedEach("i", HouseEdges::five, Check.BEYOND, (x, i) -> x.order(i), MIN, -1);
        Edge.refusedEach("i of none", Scenes.EMPTY, Check.BEYOND, (x, i) -> x.order(i), MIN, -1);
        Edge.sentence(20, "NONE.");
        Edge.refusedEach("i", HouseEdges::five, Check.NONE, (x, i) -> x.order(i), 4, 5, 8, MAX);
        Edge.refusedEach("i of none", Scenes.EMPTY, Check.NONE, (x, i) -> x.order(i), 0, MAX);
        Edge.refused("none says MORE yet", () -> coldHouse(1, 1), Check.NONE, x -> x.order(0));
    }

    private static void saying() {
        Edge.sentence(21, "HOUSES that SAY v (0 to 2), as a set.");
        Edge.answersAlone("nothing", Scenes.RICH, x -> x.saying(0), 4);
        Edge.answersAlone("MORE", Scenes.RICH, x -> x.saying(1), 2 | 8 | 16);
        Edge.answersAlone("taken back", Scenes.RICH, x -> x.saying(2), 1);
        for (int v = 0; v <= 2; v++) {
            int own = v;
            Edge.answersAlone("of no HOUSES", Scenes.EMPTY, x -> x.saying(own), 0);
        }
        WarmGlass y = sharing(1, 1, 1, 1, 1, 1, 1, 1);
        Edge.due("all eight", y.saying(1), 255);
        Scenes.hourOf(y, 10);
        Edge.due("all eight took it back", y.saying(2), 255);
        Edge.sentence(21, "BEYOND.");
        Edge.refusedEach("v", Scenes.RICH, Check.BEYOND, (x, v) -> x.saying(v), MIN, -1, 3, MAX);
    }

    private static WarmGlass threeOfWhichOneIsNew() {
        WarmGlass x = sharing(1, 2);
        x.house(1100, 1);
        return x;
    }

    private static void beside() {
        Edge.sentence(22, "BESIDE.");
        Edge.answersAlone("less", HouseEdges::threeOfWhichOneIsNew, x -> x.beside(0, 1), -1);
        Edge.answersAlone("more", HouseEdges::threeOfWhichOneIsNew, x -> x.beside(1, 0), 1);
        Edge.answersAlone("alike", () -> sharing(3, 3), x -> x.beside(0, 1), 0);
        Edge.sentence(22, "BEYOND: no such HOUSES, or one and itself.");
        Edge.refusedEach("a", Scenes.RICH, Check.BEYOND, (x, a) -> x.beside(a, 0), NO_HOUSES);
        Edge.refusedEach("b", Scenes.RICH, Check.BEYOND, (x, b) -> x.beside(0, b), NO_HOUSES);
        Edge.refusedEach("one and itself", Scenes.RICH, Check.BEYOND, (x, h) -> x.beside(h, h), 0, 4, -1, 5);
        Edge.refused("itself, ahead of NONE", HouseEdges::threeOfWhichOneIsNew, Check.BEYOND, x -> x.beside(2, 2));
        Edge.refused("no such, ahead of NONE", HouseEdges::threeOfWhichOneIsNew, Check.BEYOND, x -> x.beside(2, 3));
        Edge.sentence(22, "NONE: one counted no HOUR.");
        Edge.refused("the first", HouseEdges::threeOfWhichOneIsNew, Check.NONE, x -> x.beside(2, 0));
        Edge.refused("the other", HouseEdges::threeOfWhichOneIsNew, Check.NONE, x -> x.beside(0, 2));
        Edge.refused("one that chose none", () -> choseNone(), Check.NONE, x -> x.beside(0, 1));
        WarmGlass y = threeOfWhichOneIsNew();
        y.hours(1);
        Edge.due("it counted one", y.beside(2, 0), 0);
    }

    private static WarmGlass choseNone() {
        WarmGlass x = choosing("0");
        x.hours(1);
        return x;
    }

    private static void shared() {
        Edge.sentence(23, "COINS that a HOUSE gets, if so many are SHARED.");
        Edge.answersAlone("none", () -> sharing(1, 2), x -> x.shared(0, 1), 0);
        Edge.answersAlone("the most", () -> sharing(1, 2), x -> x.shared(999999, 1), 666666);
        Edge.answersAlone("of one that SAYS nothing", Scenes.RICH, x -> x.shared(1000, 2), 0);
        Edge.answersAlone("of one that took it back", Scenes.RICH, x -> x.shared(1000, 0), 0);
        Edge.sentence(23, "BEYOND.");
        Edge.refusedEach("coins", Scenes.RICH, Check.BEYOND, (x, v) -> x.shared(v, 1), MIN, -1, 1000000, MAX);
        Edge.refusedEach("house", Scenes.RICH, Check.BEYOND, (x, h) -> x.shared(10, h), NO_HOUSES);
        Edge.refused("coins, ahead of NONE", () -> coldHouse(1, 1), Check.BEYOND, x -> x.shared(1000000, 0));
        Edge.refused("house, ahead of NONE", () -> coldHouse(1, 1), Check.BEYOND, x -> x.shared(10, 1));
        Edge.sentence(23, "NONE: no HOUSE SAYS MORE with a BALANCE above 0.");
        Edge.refused("nothing is said yet", () -> coldHouse(1, 1), Check.NONE, x -> x.shared(10, 0));
        Edge.refused("nor of 0 coins", () -> coldHouse(1, 1), Check.NONE, x -> x.shared(0, 0));
        Edge.refused("a BALANCE below LIMIT", () -> belowLimit(), Check.NONE, x -> x.shared(10, 0));
        Edge.refused("all took it back", () -> allTookBack(), Check.NONE, x -> x.shared(10, 0));
        Edge.answersAlone("a BALANCE of 1", () -> balanceOfOne(), x -> x.shared(10, 0), 10);
    }

    private static WarmGlass belowLimit() {
        WarmGlass x = coldHouse(1, 6);
        x.hours(1);
        return x;
    }

    private static WarmGlass allTookBack() {
        WarmGlass x = sharing(1, 2);
        Scenes.hourOf(x, 20);
        x.power(0, 0);
        x.hours(50);
        return x;
    }

    private static WarmGlass balanceOfOne() {
        WarmGlass x = coldHouse(1, 1);
        Scenes.hourOf(x, 4);
        return x;
    }

    private static void line() {
        Edge.sentence(24, "LINE of a HOUSE becomes v: what it was.");
        WarmGlass x = threeOfWhichOneIsNew();
        Edge.due("the most", x.line(0, 999), 0);
        Edge.due("the least", x.line(0, 0), 999);
        Edge.due("another", x.line(0, 5), 0);
        Edge.due("the same", x.line(0, 5), 5);
        Edge.due("of the last", x.line(2, 7), 0);
        Edge.due("of others not", x.line(1, 8), 0);
        Edge.due("it is so", x.show(0), 5);
        Edge.sentence(24, "(MOVED is one more, if it was SHOWN and v is another one.)");
        WarmGlass y = threeOfWhichOneIsNew();
        y.line(0, 5);
        Edge.due("not SHOWN, another one", y.moved(0), 0);
        y.show(0);
        Edge.due("SHOWN alone", y.moved(0), 0);
        y.line(0, 5);
        Edge.due("SHOWN, the same one", y.moved(0), 0);
        y.line(0, 6);
        Edge.due("SHOWN, another one", y.moved(0), 1);
        y.line(0, 6);
        Edge.due("the same one again", y.moved(0), 1);
        y.line(0, 5);
        Edge.due("back to the first", y.moved(0), 2);
        y.line(1, 9);
        Edge.due("another HOUSE wasn't SHOWN", y.moved(1), 0);
        y.show(2);
        y.line(2, 0);
        Edge.due("LINE 0 is SHOWN and stays", y.moved(2), 0);
        y.line(2, 1);
        Edge.due("LINE 0 is SHOWN and goes", y.moved(2), 1);
        Edge.sentence(24, "BEYOND.");
        Edge.refusedEach("house", Scenes.RICH, Check.BEYOND, (z, h) -> z.line(h, 1), NO_HOUSES);
        Edge.refusedEach("v", Scenes.RICH, Check.BEYOND, (z, v) -> z.line(0, v), MIN, -1, 1000, MAX);
        Edge.refused("of no HOUSES", Scenes.EMPTY, Check.BEYOND, z -> z.line(0, 0));
    }

    private static void show() {
        Edge.sentence(25, "LINE of a HOUSE is SHOWN: its LINE.");
        WarmGlass x = threeOfWhichOneIsNew();
        Edge.due("at first", x.show(0), 0);
        x.line(0, 999);
        Edge.due("the most", x.show(0), 999);
        Edge.due("again", x.show(0), 999);
        x.line(0, 0);
        Edge.due("it was SHOWN", x.moved(0), 2);
        Edge.due("of another", x.show(1), 0);
        Edge.sentence(25, "BEYOND.");
        Edge.refusedEach("house", Scenes.RICH, Check.BEYOND, (y, h) -> y.show(h), NO_HOUSES);
        Edge.refused("of no HOUSES", Scenes.EMPTY, Check.BEYOND, y -> y.show(0));
    }

    private static void moved() {
        Edge.sentence(26, "How often LINE of a HOUSE was MOVED (when it had been SHOWN).");
        Edge.answersAlone("never", Scenes.RICH, x -> x.moved(1), 0);
        Edge.answersAlone("once", Scenes.RICH, x -> x.moved(0), 1);
        WarmGlass y = Scenes.RICH.make();
        for (int i = 0; i < 100; i++) {
            y.line(1, i % 2);
        }
        Edge.due("a hundred times", y.moved(1), 100);
        Edge.due("of another", y.moved(0), 1);
        Edge.due("of one that wasn't SHOWN", y.line(2, 3) + y.moved(2), 0);
        Edge.sentence(26, "BEYOND.");
        Edge.refusedEach("house", Scenes.RICH, Check.BEYOND, (x, h) -> x.moved(h), NO_HOUSES);
        Edge.refused("of no HOUSES", Scenes.EMPTY, Check.BEYOND, x -> x.moved(0));
    }
}
