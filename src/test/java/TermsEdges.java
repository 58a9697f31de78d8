/** Terms: findings, quotients, sets, and section 1, how an HOUR goes. */
final class TermsEdges {
    private TermsEdges() {
    }

    static void all() {
        findings();
        inTheirOrder();
        changesNothing();
        quotients();
        sets();
        hours();
        kinds();
        whatACellHas();
        warmth();
        latestAtFirst();
        powerCounts();
        gasAndBack();
        goes();
        water();
        store();
        makes();
        loses();
        rays();
        nowBehindAll();
        sums();
        reads();
    }

    private static void findings() {
        Edge.sentence(0, "FINDINGS are answers below -1000000000: -1000000001 BEYOND, -1000000002 FULL, -1000000003 KIND,"
            + " -1000000004 NONE, -1000000005 STATE, -1000000006 MISSING, -1000000007 SIZE.");
        Edge.refused("BEYOND", Scenes.EMPTY, -1000000001, x -> x.of(0, 0));
        Edge.refused("FULL", Scenes.FULL, -1000000002, x -> x.cell(0, 1010000, 0, 0));
        Edge.refused("KIND", Scenes.RICH, -1000000003, x -> x.as(0, 1));
        Edge.refused("NONE", Scenes.EMPTY, -1000000004, x -> x.undo());
        Edge.refused("STATE", Scenes.FULL, -1000000005, x -> x.hours(1));
        Edge.refused("MISSING", Scenes.EMPTY, -1000000006, x -> x.write(0, 0, 0));
        Edge.refused("SIZE", Scenes.EMPTY, -1000000007, x -> x.sheet(0, 8, -1));
    }

    /** A call for which more than one finding would hold tells the one that is asked first. */
    private static void inTheirOrder() {
        Edge.sentence(0, "Each act tells its findings in the order in which they are asked;");
        Edge.refused("cell: BEYOND, FULL", Scenes.FULL, Check.BEYOND, x -> x.cell(6, 1010000, 0, 0));
        Edge.refused("hours: BEYOND, STATE", Scenes.FULL, Check.BEYOND, x -> x.hours(101));
        Edge.refused("as: BEYOND, KIND", Scenes.RICH, Check.BEYOND, x -> x.as(0, 6));
        Edge.refused("feed: BEYOND, FULL", Scenes.FULL, Check.BEYOND, x -> x.feed(0, 5));
        Edge.refused("law: BEYOND, FULL", Scenes.FULL, Check.BEYOND, x -> x.law(1000));
        Edge.refused("house: BEYOND, FULL", Scenes.FULL, Check.BEYOND, x -> x.house(1000, 0));
        Edge.refused("since: BEYOND, NONE", Scenes.RICH, Check.BEYOND, x -> x.since(2, 2));
        Edge.refused("order: BEYOND, NONE", Scenes.EMPTY, Check.BEYOND, x -> x.order(-1));
        Edge.refused("beside: BEYOND, NONE", () -> oneHouse(), Check.BEYOND, x -> x.beside(0, 0));
        Edge.refused("shared: BEYOND, NONE", () -> oneHouse(), Check.BEYOND, x -> x.shared(1, 1));
        Edge.refused("parted: BEYOND, NONE", Scenes.RICH, Check.BEYOND, x -> x.parted(0, 0, 0, 10000));
        Edge.refused("look: BEYOND, NONE", Scenes.RICH, Check.BEYOND, x -> x.look(0, 0, 0, 101));
        Edge.refused("night: BEYOND, NONE", Scenes.RICH, Check.BEYOND, x -> x.night(4, -1));
        Edge.refused("need: BEYOND, NONE", Scenes.RICH, Check.BEYOND, x -> x.need(0, 999999, 21));
        Edge.refused("read: BEYOND, MISSING", Scenes.EMPTY, Check.BEYOND, x -> x.read(4, 0));
        Edge.refused("read: MISSING, BEYOND", Scenes.EMPTY, Check.MISSING, x -> x.read(3, 0));
        Edge.refused("sheet: BEYOND, SIZE", Scenes.RICH, Check.BEYOND, x -> x.sheet(0, 7, -1));
        Edge.refused("write: BEYOND, MISSING", Scenes.EMPTY, Check.BEYOND, x -> x.write(4, 0, 0));
        Edge.refused("write: MISSING, BEYOND", Scenes.EMPTY, Check.MISSING, x -> x.write(0, 40, 0));
        Edge.refused("copy: BEYOND, MISSING", Scenes.RICH, Check.BEYOND, x -> x.copy(3, 0, 4, 0, 0));
        Edge.refused("copy: MISSING, KIND", Scenes.RICH, Check.MISSING, x -> x.copy(3, 0, 0, 0, 0));
        Edge.refused("copy: KIND, BEYOND", Scenes.RICH, Check.KIND, x -> x.copy(0, 0, 1, 0, 6));
        Edge.refused("weeks: BEYOND, MISSING", Scenes.EMPTY, Check.BEYOND, x -> x.weeks(-1, 0));
        Edge.refused("weeks: MISSING, BEYOND", Scenes.EMPTY, Check.MISSING, x -> x.weeks(0, 0));
    }

    private static WarmGlass oneHouse() {
        WarmGlass x = Scenes.jacket();
        x.house(1000, 99999);
        return x;
    }

    private static void changesNothing() {
        Edge.sentence(0, "one that answers a finding changes nothing but status().");
        Edge.refused("power", Scenes.RICH, Check.BEYOND, x -> x.power(0, 10000));
        Edge.refused("force", Scenes.RICH, Check.BEYOND, x -> x.force(3));
        Edge.refused("told", Scenes.RICH, Check.BEYOND, x -> x.told(2));
        Edge.refused("line", Scenes.RICH, Check.BEYOND, x -> x.line(0, 1000));
        Edge.refused("weeks", Scenes.RICH, Check.BEYOND, x -> x.weeks(0, 6));
        Edge.refused("undo", Scenes::torn, Check.NONE, x -> x.undo());
    }

    private static void quotients() {
        Edge.sentence(0, "Quotients are cut.");
        Edge.due("19 by 10", Scenes.heated(0, 10, 1, 21).of(0, 8), 1);
        Edge.due("part of -7 by 2", Scenes.withLaw("part(less(0,7),2)").tells(0, 0), -3);
        Edge.due("part of 7 by -2", Scenes.withLaw("part(7,less(0,2))").tells(0, 0), -3);
        Edge.due("part of -7 by -2", Scenes.withLaw("part(less(0,7),less(0,2))").tells(0, 0), 3);
        Edge.due("GAS of 199 by 1 of 100", Scenes.burnt(0, 199, 1, 9).latest(0, 1), 1);
    }

    private static void sets() {
        Edge.sentence(0, "Sets are told by bits.");
        WarmGlass x = Scenes.jacket();
        for (int i = 0; i < 8; i++) {
            x.house(i == 0 || i == 7 ? 2000 : 1000, 10);
        }
        Edge.due("none", x.saying(1), 0);
        Edge.due("all", x.saying(0), 255);
        x.hours(1);
        Edge.due("the first and the last", x.saying(1), 1 | 128);
        Edge.due("the others", x.saying(0), 126);
    }

    private static void hours() {
        Edge.sentence(0, "HOURS are 0 to 2000; NOW is one (0 at first).");
        Edge.due("at first", new WarmGlass().count(0), 0);
        Edge.due("at last", Scenes.FULL.make().count(0), 2000);
        Edge.refused("no HOUR 2001", Scenes.FULL, Check.STATE, x -> x.hours(1));
        Edge.answers("nor by weeks", Scenes.FULL, x -> x.weeks(0, 0), 0);
    }

    private static void kinds() {
        Edge.sentence(0, "CELLS 0, 1, .. (at most 8) are of KINDS: 0 CELL, 1 STIRRED under CELL, 2 BURNING under STIRRED,"
            + " 3 STORING under CELL, 4 JACKET under CELL, 5 COUNTED under BURNING.");
        WarmGlass x = new WarmGlass();
        for (int i = 0; i < 8; i++) {
            Edge.due("CELL " + i, x.cell(i % 6, 1010000, 0, 0), i);
            Edge.due("its KIND", x.of(i, 0), i % 6);
        }
        Edge.due("a ninth", x.cell(0, 1010000, 0, 0), Check.FULL);
        String[] under = {"100000", "110000", "111000", "100100", "100010", "111001"};
        int[] reads = {0, 0, 0, 0, 5, 1};
        for (int kind = 0; kind < 6; kind++) {
            for (int as = 0; as < 6; as++) {
                long want = under[kind].charAt(as) == '1' ? reads[kind] : Check.KIND;
                Edge.due("KIND " + kind + " as " + as, x.as(kind, as), want);
            }
        }
    }

    private static void whatACellHas() {
        Edge.sentence(0, "Each has POWER (0 to 9999), LOSS (1 to 99), MASS (1 to 99), GAS (0 to 100), WATER (0 to 9999),"
            + " all told; HEAT, STORE (0 at first).");
        WarmGlass x = new WarmGlass();
        x.cell(3, 1010000, 0, 0);
        x.cell(3, 99999999, 100, 9999);
        int[][] want = {{3, 0, 1, 1, 0, 0, 0, 0}, {3, 9999, 99, 99, 100, 9999, 0, 0}};
        for (int c = 0; c < 2; c++) {
            for (int what = 0; what < 8; what++) {
                Edge.due("of(" + c + ", " + what + ")", x.of(c, what), want[c][what]);
            }
        }
    }

    private static void warmth() {
        Edge.sentence(0, "WARMTH is HEAT by MASS.");
        int[][] makesHeatWarmth = {{0, 0, 0}, {9, 9, 0}, {11, 10, 1}, {21, 19, 1}, {22, 20, 2}};
        for (int[] row : makesHeatWarmth) {
            WarmGlass x = Scenes.heated(0, 10, 1, row[0]);
            Edge.due("HEAT", x.of(0, 6), row[1]);
            Edge.due("WARMTH of " + row[1] + " by 10", x.of(0, 8), row[2]);
        }
        Edge.due("98 by 99", Scenes.heated(0, 99, 1, 98).of(0, 8), 0);
        Edge.due("99 by 99", Scenes.heated(0, 99, 1, 100).of(0, 8), 1);
    }

    private static void latestAtFirst() {
        Edge.sentence(0, "GIVES, LOSES, MAKES, GOES, RAYS: of the latest HOUR (0 at first).");
        WarmGlass x = new WarmGlass();
        x.cell(0, 10021000, 25, 4);
        Check.law(x, "40", 50);
        x.force(0);
        for (int what = 0; what <= 4; what++) {
            Edge.due("at first, latest(0, " + what + ")", x.latest(0, what), 0);
        }
        x.hours(2);
        // 750 and 40 less 158 is 632; 632, 750 and 40 is 1422, less 284: all of the second HOUR alone.
        int[] second = {1000, 250, 40, 284, 20};
        for (int what = 0; what <= 4; what++) {
            Edge.due("of the second, latest(0, " + what + ")", x.latest(0, what), second[what]);
        }
        x.force(-1);
        x.hours(1);
        // WATER 4 went by 3 and 1, so the third HOUR gives none: 1138 less 226.
        int[] third = {0, 0, 0, 226, 0};
        for (int what = 0; what <= 4; what++) {
            Edge.due("of the third, latest(0, " + what + ")", x.latest(0, what), third[what]);
        }
    }

    private static void powerCounts() {
        Edge.sentence(0, "An HOUR goes, of CELLS by numbers: POWER counts as 0, if WATER is 0.");
        Edge.due("WATER 0", Scenes.burnt(0, 500, 0, 0).latest(0, 0), 0);
        Edge.due("no HEAT of it", Scenes.burnt(0, 500, 0, 0).of(0, 6), 0);
        Edge.due("no GAS of it", Scenes.burnt(0, 500, 50, 0).latest(0, 1), 0);
        Edge.due("its POWER stays", Scenes.burnt(0, 500, 0, 0).of(0, 1), 500);
        Edge.due("WATER 1", Scenes.burnt(0, 500, 0, 1).latest(0, 0), 500);
        Edge.due("WATER 1 for GAS of five hundreds", Scenes.burnt(0, 500, 100, 1).latest(0, 0), 500);
        WarmGlass x = new WarmGlass();
        x.cell(0, 99010500, 0, 0);
        x.cell(0, 99010600, 0, 1);
        x.hours(1);
        Edge.due("one has none", x.latest(0, 0), 0);
        Edge.due("the other has some", x.latest(1, 0), 600);
    }

    private static void gasAndBack() {
        Edge.sentence(0, "GAS of it: POWER times GAS by 100; BACK of that: CELL nothing; BURNING half; COUNTED a BURNING"
            + " one's, and a tenth of that GAS more; others as the KIND that they are under.");
        Edge.due("99 by 1 of 100", Scenes.burnt(0, 99, 1, 9).latest(0, 1), 0);
        Edge.due("100 by 1 of 100", Scenes.burnt(0, 100, 1, 9).latest(0, 1), 1);
        Edge.due("GAS 0", Scenes.burnt(0, 9999, 0, 9).latest(0, 1), 0);
        Edge.due("GAS 100", Scenes.burnt(0, 9999, 100, 999).latest(0, 1), 9999);
        // GAS of it, then what goes of a BURNING one, then of a COUNTED one.
        int[][] rows = {{0, 0, 0}, {1, 1, 1}, {2, 1, 1}, {9, 5, 5}, {10, 5, 4}, {15, 8, 7}, {19, 10, 9}, {20, 10, 8}};
        for (int[] row : rows) {
            for (int kind : new int[] {0, 1, 3, 4}) {
                Edge.due(row[0] + " of KIND " + kind, Scenes.burnt(kind, row[0], 100, 9).latest(0, 1), row[0]);
            }
            Edge.due(row[0] + " of BURNING", Scenes.burnt(2, row[0], 100, 9).latest(0, 1), row[1]);
            Edge.due(row[0] + " of COUNTED", Scenes.burnt(5, row[0], 100, 9).latest(0, 1), row[2]);
        }
    }

    private static void goes() {
        Edge.sentence(0, "GOES: GAS of it less BACK.");
        Edge.due("of a BURNING one", Scenes.burnt(2, 9999, 100, 999).latest(0, 1), 5000);
        Edge.due("of a COUNTED one", Scenes.burnt(5, 9999, 100, 999).latest(0, 1), 4001);
        Edge.due("of a CELL", Scenes.burnt(0, 9999, 100, 999).latest(0, 1), 9999);
        // What comes back goes to HEAT: 98 of it, of WARMTH 0; of a CELL nothing is left.
        Edge.due("HEAT of a BURNING one", Scenes.burnt(2, 196, 100, 9).of(0, 6), 98);
        Edge.due("HEAT of a CELL", Scenes.burnt(0, 196, 100, 9).of(0, 6), 0);
    }

    private static void water() {
        Edge.sentence(0, "WATER is less by one for each begun hundred of GAS of it (0 at least).");
        int[][] gasAndLess = {{0, 0}, {1, 1}, {99, 1}, {100, 1}, {101, 2}, {200, 2}, {201, 3}, {9900, 99}, {9999, 100}};
        for (int[] row : gasAndLess) {
            Edge.due("GAS of " + row[0], Scenes.burnt(0, row[0], 100, 500).of(0, 5), 500 - row[1]);
        }
        Edge.due("of what comes back, too", Scenes.burnt(5, 101, 100, 500).of(0, 5), 498);
        Edge.due("one is left", Scenes.burnt(0, 9999, 100, 101).of(0, 5), 1);
        Edge.due("none is left", Scenes.burnt(0, 9999, 100, 100).of(0, 5), 0);
        Edge.due("0 at least", Scenes.burnt(0, 9999, 100, 99).of(0, 5), 0);
        Edge.due("0 at least, of 1", Scenes.burnt(0, 9999, 100, 1).of(0, 5), 0);
    }

    private static void store() {
        Edge.sentence(0, "Of POWER less GOES a STORING one puts a fifth to its STORE; if that is 1000 or more then, all of"
            + " it goes to HEAT (at once), else none of it does; the rest of POWER less GOES (of others all of it) goes to"
            + " HEAT.");
        // POWER, its STORE then, its HEAT then (MASS 99, LOSS 1).
        int[][] rows = {{4, 0, 4}, {5, 1, 4}, {9, 1, 8}, {10, 2, 8}, {4995, 999, 3956}, {4999, 999, 3960},
            {5000, 0, 4950}, {9999, 0, 9898}};
        for (int[] row : rows) {
            Edge.due("STORE of " + row[0], Scenes.burnt(3, row[0], 0, 9).of(0, 7), row[1]);
            Edge.due("HEAT of " + row[0], Scenes.burnt(3, row[0], 0, 9).of(0, 6), row[2]);
        }
        Edge.due("a fifth of POWER less GOES", Scenes.burnt(3, 1000, 50, 9).of(0, 7), 100);
        for (int kind : new int[] {0, 1, 2, 4, 5}) {
            Edge.due("no STORE of KIND " + kind, Scenes.burnt(kind, 5000, 0, 9).of(0, 7), 0);
            Edge.due("all of it to HEAT of KIND " + kind, Scenes.burnt(kind, 90, 0, 9).of(0, 6), 90);
        }
        WarmGlass x = Scenes.burnt(3, 4995, 0, 9);
        x.power(0, 4);
        x.hours(1);
        // 3956 and 4 is 3960: 40 are lost.
        Edge.due("999 stays", x.of(0, 7), 999);
        Edge.due("HEAT without it", x.of(0, 6), 3920);
        x.power(0, 5);
        x.hours(1);
        // 3920, 4 and 1000 is 4924: 49 are lost.
        Edge.due("one more, and all goes", x.of(0, 7), 0);
        Edge.due("HEAT with it", x.of(0, 6), 4875);
    }

    private static WarmGlass made(String law) {
        WarmGlass x = new WarmGlass();
        x.cell(0, 99010100, 100, 1);
        Check.law(x, law, 100);
        x.force(0);
        x.hours(1);
        return x;
    }

    private static void makes() {
        Edge.sentence(0, "MAKES: what THE LAW tells (0 at least, 9999 at most; without one 0) of the CELL, all as it was when"
            + " the HOUR began; it goes to HEAT, too.");
        String[] laws = {"less(0,1)", Scenes.LEAST_INT, "0", "1", "9998", "9999", "sum(9999,1)", Scenes.MOST_INT};
        int[] makes = {0, 0, 0, 1, 9998, 9999, 9999, 9999};
        for (int i = 0; i < laws.length; i++) {
            Edge.due(laws[i], made(laws[i]).latest(0, 2), makes[i]);
        }
        Edge.due("without one", Scenes.burnt(0, 100, 100, 1).latest(0, 2), 0);
        Edge.due("WATER as it was", made("w").latest(0, 2), 1);
        Edge.due("p as it was", made("p").latest(0, 2), 100);
        Edge.due("t as it was", made("sum(t,7)").latest(0, 2), 7);
        Edge.due("h as it was", made("h").latest(0, 2), 0);
        Edge.due("to HEAT", made("98").of(0, 6), 98);
        WarmGlass x = made("h");
        x.hours(1);
        Edge.due("h of the second", x.latest(0, 2), 1);
        Edge.due("p without WATER", secondOf("sum(p,3)").latest(0, 2), 3);
    }

    private static WarmGlass secondOf(String law) {
        WarmGlass x = made(law);
        x.hours(1);
        return x;
    }

    private static void loses() {
        Edge.sentence(0, "LOSES: WARMTH then times LOSS, no more than HEAT: HEAT is less by it.");
        // MASS, LOSS, what is made, what is lost of it.
        int[][] rows = {{1, 1, 50, 50}, {1, 2, 50, 50}, {1, 99, 9999, 9999}, {10, 99, 9, 0}, {10, 99, 10, 10},
            {99, 99, 98, 0}, {99, 99, 99, 99}, {99, 99, 100, 99}, {10, 9, 10, 9}, {10, 10, 19, 10}, {10, 11, 10, 10},
            {10, 11, 11, 11}, {10, 11, 12, 11}, {99, 1, 9999, 101}};
        for (int[] row : rows) {
            WarmGlass x = Scenes.heated(0, row[0], row[1], row[2]);
            String what = row[2] + " of MASS " + row[0] + ", LOSS " + row[1];
            Edge.due(what + " loses", x.latest(0, 3), row[3]);
            Edge.due(what + " has", x.of(0, 6), row[2] - row[3]);
        }
        // WARMTH is that with POWER and MAKES: 60 and 40 of MASS 99.
        WarmGlass y = new WarmGlass();
        y.cell(0, 99010060, 0, 1);
        Check.law(y, "39", 0);
        y.force(0);
        y.hours(1);
        Edge.due("POWER and MAKES are in WARMTH", y.latest(0, 3), 1);
    }

    private static WarmGlass shone(String floor, String law, int ray) {
        WarmGlass x = new WarmGlass();
        x.cell(0, 10010100, 100, 1);
        Check.told(x, floor, 0);
        Check.law(x, law, ray);
        x.force(0);
        x.hours(1);
        return x;
    }

    private static void rays() {
        Edge.sentence(0, "RAYS: FLOOR of the CELL (as all is now; h is still the HOUR that goes), and MAKES times RAY of THE"
            + " LAW by 100.");
        Edge.due("1 by 99", shone("0", "1", 99).latest(0, 4), 0);
        Edge.due("1 by 100", shone("0", "1", 100).latest(0, 4), 1);
        Edge.due("199 by 1", shone("0", "199", 1).latest(0, 4), 1);
        Edge.due("RAY 0", shone("0", "9999", 0).latest(0, 4), 0);
        Edge.due("the most", shone("0", "mul(9999,9999)", 999).latest(0, 4), 99890);
        Edge.due("of MAKES that is held", shone("0", "less(0,900)", 999).latest(0, 4), 0);
        Edge.due("FLOOR, too", shone("5", "1", 100).latest(0, 4), 6);
        Edge.due("FLOOR below 0", shone("less(0,5)", "1", 100).latest(0, 4), -4);
        Edge.due("w now", shone("w", "0", 0).latest(0, 4), 0);
        Edge.due("p now", shone("p", "0", 0).latest(0, 4), 0);
        Edge.due("t now", shone("t", "22", 0).latest(0, 4), 2);
        Edge.due("h is still the HOUR", shone("h", "0", 0).latest(0, 4), 0);
        Edge.due("they go round", shone(Scenes.MOST_INT, "1", 100).latest(0, 4), Integer.MIN_VALUE);
        WarmGlass x = new WarmGlass();
        x.cell(0, 10010100, 0, 1);
        x.hours(1);
        Edge.due("without LAW and FLOOR", x.latest(0, 4), 0);
        Check.told(x, "sum(h,30)", 0);
        x.hours(1);
        Edge.due("without LAW", x.latest(0, 4), 31);
    }

    private static void nowBehindAll() {
        Edge.sentence(0, "NOW is one more behind all.");
        WarmGlass x = new WarmGlass();
        x.cell(0, 99010000, 0, 1);
        x.cell(0, 99010000, 0, 1);
        x.house(1011, 99999);
        Check.law(x, "h", 100);
        Check.told(x, "mul(h,10)", 0);
        Check.told(x, "less(h,1)", 1);
        x.force(0);
        Edge.due("one HOUR", x.hours(1), 1);
        Edge.due("the HOUSE counted HOUR 0", x.houseOf(0, 5), 1);
        x.hours(1);
        Edge.due("in HOUR 1, the first CELL", x.latest(0, 4), 11);
        Edge.due("in HOUR 1, the other CELL", x.latest(1, 4), 11);
        Edge.due("the HOUSE left HOUR 1 out", x.houseOf(0, 5), 1);
        Edge.due("NOW", x.count(0), 2);
    }

    private static void sums() {
        Edge.sentence(0, "Sums ever of a CELL: PUT (POWER that counted), GONE (GOES), MADE (MAKES), LOST (LOSES).");
        WarmGlass x = new WarmGlass();
        x.cell(2, 10020101, 100, 3);
        Check.law(x, "30", 0);
        x.force(0);
        x.hours(1);
        // GAS of 101, 50 come back, 51 go: HEAT 50 and 30 less 16 is 64.
        int[] first = {101, 51, 30, 16};
        for (int what = 0; what < 4; what++) {
            Edge.due("of one, ever(0, " + what + ")", x.ever(0, what), first[what]);
        }
        x.hours(2);
        // WATER 3, 1, 0: two HOURS count. 144 less 28 is 116; 146 less 28.
        int[] third = {202, 102, 90, 72};
        for (int what = 0; what < 4; what++) {
            Edge.due("of three, ever(0, " + what + ")", x.ever(0, what), third[what]);
        }
        Edge.due("what is left", x.of(0, 6), 118);
    }

    private static void reads() {
        Edge.sentence(0, "READ: what its thermometer tells: CELL: WARMTH; STIRRED: a CELL's, and a tenth of that; BURNING as"
            + " a STIRRED one; STORING as a CELL; JACKET: a CELL's by 2, and 5; COUNTED: a BURNING one's, and 1.");
        // What is made (MASS 10, LOSS 1), WARMTH, then READ of each KIND.
        int[][] rows = {{0, 0, 0, 0, 0, 0, 5, 1}, {11, 1, 1, 1, 1, 1, 5, 2}, {22, 2, 2, 2, 2, 2, 6, 3},
            {33, 3, 3, 3, 3, 3, 6, 4}, {99, 9, 9, 9, 9, 9, 9, 10}, {111, 10, 10, 11, 11, 10, 10, 12},
            {212, 19, 19, 20, 20, 19, 14, 21}, {223, 20, 20, 22, 22, 20, 15, 23}};
        for (int[] row : rows) {
            for (int kind = 0; kind < 6; kind++) {
                WarmGlass x = Scenes.heated(kind, 10, 1, row[0]);
                Edge.due("WARMTH", x.of(0, 8), row[1]);
                Edge.due("WARMTH " + row[1] + " of KIND " + kind, x.of(0, 9), row[2 + kind]);
            }
        }
    }
}
