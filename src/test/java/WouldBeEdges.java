/** Terms, section 4 but for coins and houses, and promises 27 to 34: what would be. */
final class WouldBeEdges {
    private static final int MIN = Edge.MIN;
    private static final int MAX = Edge.MAX;
    /** What is neither a LAW of Scenes.RICH, which has 0 to 2, nor none. */
    private static final int[] NO_LAWS = {MIN, -2, 3, 6, MAX};

    private WouldBeEdges() {
    }

    static void all() {
        foretoldTerm();
        partedTerm();
        lookTerm();
        mustTerm();
        nightTerm();
        needTerm();
        foretold();
        parted();
        look();
        must();
        barred();
        night();
        need();
        read();
    }

    private static void foretoldTerm() {
        Edge.sentence(0, "FORETOLD: how a CELL would be n HOURS from now on by a told LAW (or none) in place of THE LAW, all else"
            + " as it is (its POWER stays).");
        int[] whatOfCell = {6, 9, -1, 7, 5};
        for (int law = -1; law <= 2; law++) {
            for (int n : new int[] {1, 2, 37, 100}) {
                WarmGlass would = Scenes.RICH.make();
                WarmGlass is = Scenes.RICH.make();
                is.force(law);
                is.hours(n);
                for (int c = 0; c < 6; c++) {
                    for (int what = 0; what <= 4; what++) {
                        long want = what == 2 ? is.latest(c, 4) : is.of(c, whatOfCell[what]);
                        Edge.due("foretold(" + c + ", " + law + ", " + n + ", " + what + ")",
                            would.foretold(c, law, n, what), want);
                    }
                }
            }
        }
        WarmGlass x = Scenes.one();
        x.force(0);
        Edge.due("none in place of THE LAW", x.foretold(0, -1, 3, 1), 146);
        Edge.due("a LAW in place of THE LAW", x.foretold(0, 0, 3, 1), 166);
        x.force(-1);
        Edge.due("a LAW in place of none", x.foretold(0, 0, 3, 1), 166);
        Edge.due("behind no HOURS: as it is", x.foretold(0, 0, 0, 0), 0);
        x.hours(1);
        Edge.due("HEAT behind no HOURS", x.foretold(0, 0, 0, 0), 600);
        Edge.due("RAYS behind no HOURS", x.foretold(0, 0, 0, 2), 7);
        Edge.due("WATER behind no HOURS", x.foretold(0, 0, 0, 4), 9996);
    }

    /** By LAW 0 none is made up to an HOUR, by LAW 1 up to the HOUR behind it. */
    private static WarmGlass from(int hour) {
        WarmGlass x = new WarmGlass();
        x.cell(0, 10020000, 0, 0);
        Check.law(x, "if(less(h," + hour + "),0,1000)", 0);
        Check.law(x, "if(less(h," + (hour + 1) + "),0,1000)", 0);
        return x;
    }

    private static void partedTerm() {
        Edge.sentence(0, "PARTED: the least n (1 to 50) behind which READS by two LAWS are apart by as much as told, or more.");
        WarmGlass x = Scenes.one();
        // READS are apart by 8, 14, 20.
        int[][] byAndN = {{1, 1}, {7, 1}, {8, 1}, {9, 2}, {14, 2}, {15, 3}, {20, 3}};
        for (int[] row : byAndN) {
            Edge.due("by " + row[0], x.parted(0, 0, -1, row[0]), row[1]);
            Edge.due("by " + row[0] + ", the other way", x.parted(0, -1, 0, row[0]), row[1]);
        }
        // 1000 less 200 is HEAT 800 in the 50th HOUR.
        Edge.due("in the 50th", from(49).parted(0, 0, -1, 80), 50);
        Edge.due("by more than in the 50th", from(49).parted(0, 0, -1, 81), Check.NONE);
        Edge.due("in the 51st", from(49).parted(0, 1, -1, 1), Check.NONE);
        WarmGlass later = from(59);
        later.hours(10);
        Edge.due("in the 50th from now on", later.parted(0, 0, -1, 80), 50);
        Edge.due("in the 51st from now on", later.parted(0, 1, -1, 1), Check.NONE);
        Edge.due("one LAW and itself", x.parted(0, 0, 0, 1), Check.NONE);
        Edge.due("none and none", x.parted(0, -1, -1, 1), Check.NONE);
        // READ of a JACKET: 20 by 2 and 5, apart from 5.
        WarmGlass jacket = new WarmGlass();
        jacket.cell(4, 10010000, 0, 0);
        Check.law(jacket, "223", 0);
        Edge.due("READ, not WARMTH", jacket.parted(0, 0, -1, 10), 1);
        Edge.due("READ, not WARMTH, by more", jacket.parted(0, 0, -1, 11), 2);
    }

    /** A CELL of a KIND, MASS 10 and LOSS 1, and two LAWS. */
    private static WarmGlass two(int kind, String first, int ray, String other, int otherRay) {
        WarmGlass x = new WarmGlass();
        x.cell(kind, 10010000, 0, 0);
        Check.law(x, first, ray);
        Check.law(x, other, otherRay);
        return x;
    }

    private static void looks(String what, WarmGlass x, int want) {
        Edge.due(what, x.look(0, 0, 1, 1), want);
        Edge.due(what + ", the other way", x.look(0, 1, 0, 1), want);
    }

    private static void lookTerm() {
        Edge.sentence(0, "THE LOOK: what is farthest apart by two LAWS behind n HOURS: 0 READ, 1 RAYS, 2 HEAT (of like ones the"
            + " least).");
        // HEAT 99 and 100, WARMTH 9 and 10; READ of a STIRRED one 9 and 11.
        looks("READ by 2, RAYS by 0, HEAT by 1", two(1, "109", 0, "111", 0), 0);
        looks("READ by 2, RAYS by 2, HEAT by 1", two(1, "109", 100, "111", 100), 0);
        looks("READ by 2, RAYS by 3, HEAT by 1", two(1, "109", 100, "112", 100), 1);
        looks("READ by 1, RAYS by 0, HEAT by 1", two(0, "109", 0, "111", 0), 0);
        looks("READ by 1, RAYS by 1, HEAT by 1", two(0, "109", 1, "111", 2), 0);
        looks("READ by 0, RAYS by 5, HEAT by 5", two(0, "4", 100, "9", 100), 1);
        looks("READ by 0, RAYS by 4, HEAT by 5", two(0, "4", 100, "9", 99), 2);
        looks("READ by 0, RAYS by 3, HEAT by 5", two(0, "4", 99, "9", 75), 2);
        looks("READ by 0, RAYS by 1, HEAT by 0", two(0, "4", 0, "4", 25), 1);
        looks("READ by 0, RAYS by 0, HEAT by 1", two(0, "4", 0, "5", 0), 2);
        looks("none", two(0, "4", 10, "4", 10), Check.NONE);
        looks("none by other texts", two(0, "4", 10, "sum(2,2)", 10), Check.NONE);
        // HEAT of MASS 1 goes at once, and RAYS are of the latest HOUR alone.
        WarmGlass x = new WarmGlass();
        x.cell(0, 1010000, 0, 0);
        Check.law(x, "if(h,0,100)", 100);
        Edge.due("behind the first HOUR", x.look(0, 0, -1, 1), 1);
        Edge.due("behind the second", x.look(0, 0, -1, 2), Check.NONE);
        // RAYS that are farther apart than an int goes.
        WarmGlass far = two(0, "100", 0, "0", 0);
        Check.told(far, "if(t," + Scenes.MOST_INT + "," + Scenes.LEAST_INT + ")", 0);
        looks("RAYS from the least to the most", far, 1);
    }

    private static WarmGlass barring(String law, int ray, String floor) {
        WarmGlass x = new WarmGlass();
        x.cell(0, 10020000, 0, 0);
        Check.law(x, law, ray);
        Check.told(x, floor, 0);
        return x;
    }

    private static void mustTerm() {
        Edge.sentence(0, "MUST: RAYS over FLOOR that a LAW would make: what it tells now (0 at least, 9999 at most) times its RAY"
            + " by 100; it is BARRED with a slip, if RAYS of the CELL (of the latest HOUR) less FLOOR now, and the slip, are"
            + " together less than that.");
        Edge.due("-1", barring("less(0,1)", 999, "0").must(0, 0), 0);
        Edge.due("0", barring("0", 999, "0").must(0, 0), 0);
        Edge.due("9999", barring("9999", 100, "0").must(0, 0), 9999);
        Edge.due("10000", barring("sum(9999,1)", 100, "0").must(0, 0), 9999);
        Edge.due("the most", barring(Scenes.MOST_INT, 999, "0").must(0, 0), 99890);
        Edge.due("the least", barring(Scenes.LEAST_INT, 999, "0").must(0, 0), 0);
        Edge.due("by RAY 0", barring("9999", 0, "0").must(0, 0), 0);
        Edge.due("cut", barring("99", 1, "0").must(0, 0), 0);
        Edge.due("not cut", barring("100", 1, "0").must(0, 0), 1);
        Edge.due("over FLOOR", barring("100", 50, "7").must(0, 0), 50);
        // RAYS 0, FLOOR 7, MUST 50.
        Edge.due("slip 56", barring("100", 50, "7").barred(0, 0, 56), 1);
        Edge.due("slip 57", barring("100", 50, "7").barred(0, 0, 57), 0);
        Edge.due("slip 58", barring("100", 50, "7").barred(0, 0, 58), 0);
        // FLOOR below 0 is as good as RAYS.
        Edge.due("FLOOR -50", barring("100", 50, "less(0,50)").barred(0, 0, 0), 0);
        Edge.due("FLOOR -49", barring("100", 50, "less(0,49)").barred(0, 0, 0), 1);
        Edge.due("MUST 0 isn't above RAYS 0", barring("0", 50, "0").barred(0, 0, 0), 0);
        Edge.due("MUST 0 is above FLOOR 1", barring("0", 50, "1").barred(0, 0, 0), 1);
        Edge.due("MUST above the greatest slip", barring("9999", 999, "0").barred(0, 0, 9999), 1);
        WarmGlass x = barring("100", 50, "h");
        x.force(0);
        x.hours(1);
        // RAYS 50 of HOUR 0; FLOOR is 1 now.
        Edge.due("FLOOR now", x.barred(0, 0, 0), 1);
        Edge.due("FLOOR now, a slip of 1", x.barred(0, 0, 1), 0);
        Check.told(x, Scenes.LEAST_INT, 0);
        Edge.due("far above FLOOR", x.barred(0, 0, 0), 0);
        x.hours(1);
        Check.told(x, Scenes.MOST_INT, 0);
        Edge.due("far below FLOOR", x.barred(0, 0, 9999), 1);
    }

    /** READ is 40 at NOW 60 as long as LAW 0 makes 100; LAW 1 makes them up to HOUR 258, LAW 2 up to HOUR 259. */
    private static WarmGlass warm() {
        WarmGlass x = new WarmGlass();
        x.cell(0, 10020000, 0, 1);
        Check.law(x, "100", 0);
        Check.law(x, "if(max(0,less(259,h)),100,0)", 0);
        Check.law(x, "if(max(0,less(260,h)),100,0)", 0);
        x.force(0);
        x.hours(60);
        return x;
    }

    private static void nightTerm() {
        Edge.sentence(0, "A NIGHT: the least n (0 to 200) behind which READ is at most as told, if its POWER were 0 from now on.");
        WarmGlass x = Scenes.one();
        x.hours(4);
        // READ 177; then 1772 less 354 is 1418, less 282 is 1136, less 226 is 910.
        int[][] readAndN = {{178, 0}, {177, 0}, {176, 1}, {142, 1}, {141, 1}, {140, 2}, {113, 2}, {112, 3}, {91, 3}, {90, 4}};
        for (int[] row : readAndN) {
            Edge.due("READ " + row[0], x.night(0, row[0]), row[1]);
        }
        Edge.due("POWER is as it was", x.of(0, 1), 1000);
        Check.law(x, "mul(p,9999)", 0);
        x.force(1);
        Edge.due("p of THE LAW is 0", x.night(0, 141), 1);
        WarmGlass y = warm();
        Edge.due("it is READ 40", y.of(0, 9), 40);
        Edge.due("by THE LAW for ever", y.night(0, 39), Check.NONE);
        Edge.due("READ as it is", y.night(0, 40), 0);
        y.force(1);
        Edge.due("in the 200th", y.night(0, 39), 200);
        y.force(2);
        Edge.due("in the 201st", y.night(0, 39), Check.NONE);
        y.force(-1);
        Edge.due("without a LAW", y.night(0, 39), 1);
        Edge.due("a JACKET tells 5 at least", Scenes.heated(4, 10, 1, 999).night(0, 4), Check.NONE);
        Edge.due("a COUNTED one tells 1 at least", Scenes.heated(5, 10, 1, 999).night(0, 0), Check.NONE);
        Edge.due("HEAT below MASS tells 0", Scenes.heated(0, 99, 1, 98).night(0, 0), 0);
    }

    private static WarmGlass bare(int mass, int loss) {
        WarmGlass x = new WarmGlass();
        x.cell(0, mass * 1000000 + loss * 10000, 0, 0);
        return x;
    }

    private static void needTerm() {
        Edge.sentence(0, "NEED: the least MAKES (0 to 300, the same in each HOUR, in place of what THE LAW tells) with which HEAT"
            + " is as much as told, or more, behind n HOURS (1 to 20).");
        // MASS 99, LOSS 1: 98 leave 98, 99 leave 98, 100 leave 99, 300 leave 297.
        int[][] heatAndNeed = {{0, 0}, {1, 1}, {98, 98}, {99, 100}, {297, 300}, {298, Check.NONE}};
        for (int[] row : heatAndNeed) {
            Edge.due("HEAT " + row[0], bare(99, 1).need(0, row[0], 1), row[1]);
        }
        // MASS 10, LOSS 2: 98 leave 80, 99 leave 81, 100 leave 80, 101 leave 81, 102 leave 82.
        Edge.due("80", bare(10, 2).need(0, 80, 1), 98);
        Edge.due("the least, though more may leave less", bare(10, 2).need(0, 81, 1), 99);
        Edge.due("82", bare(10, 2).need(0, 82, 1), 102);
        // In each HOUR: 49 twice are 98, 50 twice are 100 less 1; 4 of 20 HOURS are 80, 3 are 60.
        Edge.due("of two HOURS", bare(99, 1).need(0, 98, 2), 49);
        Edge.due("of two HOURS, one more", bare(99, 1).need(0, 99, 2), 50);
        Edge.due("of 20 HOURS", bare(99, 1).need(0, 80, 20), 4);
        Edge.due("of 20 HOURS, one less", bare(99, 1).need(0, 60, 20), 3);
        Edge.due("MASS 1 keeps nothing", bare(1, 1).need(0, 1, 20), Check.NONE);
        Edge.due("nothing is needed of it", bare(1, 1).need(0, 0, 20), 0);
        WarmGlass x = Scenes.one();
        x.force(0);
        Edge.due("with POWER, in place of THE LAW", x.need(0, 600, 1), 0);
        Edge.due("with POWER and more", x.need(0, 601, 1), 1);
        Edge.due("the most with POWER", x.need(0, 841, 1), 299);
        Edge.due("above that", x.need(0, 842, 1), Check.NONE);
    }

    private static void foretold() {
        Edge.sentence(27, "FORETOLD by a LAW (-1: none) behind n HOURS (0 to 100): what 0 HEAT, 1 READ, 2 RAYS, 3 STORE, 4 WATER.");
        WarmGlass x = new WarmGlass();
        x.cell(3, 99011000, 10, 5);
        Check.law(x, "c", 100);
        Check.told(x, "3", 0);
        Edge.due("STORE of one", x.foretold(0, -1, 1, 3), 180);
        Edge.due("STORE of five", x.foretold(0, -1, 5, 3), 900);
        Edge.due("STORE of a hundred: WATER is out", x.foretold(0, -1, 100, 3), 900);
        Edge.due("WATER of four", x.foretold(0, -1, 4, 4), 1);
        Edge.due("WATER of a hundred", x.foretold(0, -1, 100, 4), 0);
        Edge.due("HEAT of one", x.foretold(0, 0, 1, 0), 713);
        Edge.due("READ of one", x.foretold(0, 0, 1, 1), 7);
        Edge.due("RAYS of one", x.foretold(0, 0, 1, 2), 3);
        Edge.due("RAYS of none", x.foretold(0, 0, 0, 2), 0);
        Edge.answersAlone("n 0", Scenes.RICH, y -> y.foretold(0, -1, 0, 4), Scenes.RICH.make().of(0, 5));
        Edge.answersAlone("n 100", () -> Scenes.jacket(), y -> y.foretold(0, -1, 100, 1), 5);
        WarmGlass last = CellEdges.at(2000);
        Edge.due("beyond the last HOUR h goes on", last.foretold(0, 0, 51, 2), 2051);
        Edge.due("NOW stays", last.count(0), 2000);
        Edge.sentence(27, "BEYOND: CELL, LAW, n, what.");
        Edge.refusedEach("cell", Scenes.RICH, Check.BEYOND, (y, c) -> y.foretold(c, 0, 1, 0), CellEdges.NO_CELLS);
        Edge.refusedEach("law", Scenes.RICH, Check.BEYOND, (y, law) -> y.foretold(0, law, 1, 0), NO_LAWS);
        Edge.refusedEach("n", Scenes.RICH, Check.BEYOND, (y, n) -> y.foretold(0, 0, n, 0), MIN, -1, 101, MAX);
        Edge.refusedEach("what", Scenes.RICH, Check.BEYOND, (y, what) -> y.foretold(0, 0, 1, what), MIN, -1, 5, MAX);
        Edge.refused("of no LAWS", () -> Scenes.jacket(), Check.BEYOND, y -> y.foretold(0, 0, 1, 0));
    }

    private static void parted() {
        Edge.sentence(28, "PARTED by two LAWS (a, b; -1: none), by so much (1 to 9999).");
        Edge.answersAlone("by 1", Scenes::one, x -> x.parted(0, 0, -1, 1), 1);
        Edge.answersAlone("in the 50th", () -> from(49), x -> x.parted(0, -1, 0, 1), 50);
        Edge.sentence(28, "BEYOND.");
        Edge.refusedEach("cell", Scenes.RICH, Check.BEYOND, (x, c) -> x.parted(c, 0, -1, 1), CellEdges.NO_CELLS);
        Edge.refusedEach("a", Scenes.RICH, Check.BEYOND, (x, a) -> x.parted(0, a, -1, 1), NO_LAWS);
        Edge.refusedEach("b", Scenes.RICH, Check.BEYOND, (x, b) -> x.parted(0, 0, b, 1), NO_LAWS);
        Edge.refusedEach("by", Scenes.RICH, Check.BEYOND, (x, by) -> x.parted(0, 0, -1, by), MIN, -1, 0, 10000, MAX);
        Edge.sentence(28, "NONE.");
        Edge.refused("by 9999", Scenes.RICH, Check.NONE, x -> x.parted(0, 2, -1, 9999));
        Edge.refused("one LAW and itself", Scenes.RICH, Check.NONE, x -> x.parted(0, 2, 2, 1));
        Edge.refused("none and none", Scenes.RICH, Check.NONE, x -> x.parted(0, -1, -1, 1));
        Edge.refused("in the 51st", () -> from(49), Check.NONE, x -> x.parted(0, -1, 1, 1));
    }

    private static void look() {
        Edge.sentence(29, "THE LOOK by two LAWS (a, b; -1: none) behind n HOURS (1 to 100).");
        Edge.answersAlone("n 1", Scenes::one, x -> x.look(0, 0, -1, 1), 2);
        Edge.answersAlone("n 100", Scenes::one, x -> x.look(0, -1, 0, 100), 2);
        Edge.answersAlone("in the 100th", () -> from(99), x -> x.look(0, 0, -1, 100), 2);
        Edge.refused("not in the 99th", () -> from(99), Check.NONE, x -> x.look(0, 0, -1, 99));
        Edge.sentence(29, "BEYOND.");
        Edge.refusedEach("cell", Scenes.RICH, Check.BEYOND, (x, c) -> x.look(c, 0, -1, 1), CellEdges.NO_CELLS);
        Edge.refusedEach("a", Scenes.RICH, Check.BEYOND, (x, a) -> x.look(0, a, -1, 1), NO_LAWS);
        Edge.refusedEach("b", Scenes.RICH, Check.BEYOND, (x, b) -> x.look(0, 0, b, 1), NO_LAWS);
        Edge.refusedEach("n", Scenes.RICH, Check.BEYOND, (x, n) -> x.look(0, 0, -1, n), MIN, -1, 0, 101, MAX);
        Edge.refusedEach("n, ahead of NONE", Scenes.RICH, Check.BEYOND, (x, n) -> x.look(0, 0, 0, n), 0, 101);
        Edge.sentence(29, "NONE: none is apart.");
        Edge.refused("one LAW and itself", Scenes.RICH, Check.NONE, x -> x.look(0, 2, 2, 100));
        Edge.refused("none and none", Scenes.RICH, Check.NONE, x -> x.look(0, -1, -1, 1));
    }

    private static void must() {
        Edge.sentence(30, "MUST.");
        Edge.answersAlone("by RAY 200", Scenes.RICH, x -> x.must(0, 1), 60);
        Edge.answersAlone("the most", () -> barring("9999", 999, "0"), x -> x.must(0, 0), 99890);
        Edge.sentence(30, "BEYOND.");
        Edge.refusedEach("cell", Scenes.RICH, Check.BEYOND, (x, c) -> x.must(c, 0), CellEdges.NO_CELLS);
        Edge.refusedEach("law", Scenes.RICH, Check.BEYOND, (x, law) -> x.must(0, law), MIN, -2, -1, 3, 6, MAX);
    }

    private static void barred() {
        Edge.sentence(31, "Whether a LAW is BARRED by a CELL with a slip (0 to 9999): 1, 0.");
        Edge.answersAlone("slip 0", () -> barring("1", 100, "0"), x -> x.barred(0, 0, 0), 1);
        Edge.answersAlone("slip 1", () -> barring("1", 100, "0"), x -> x.barred(0, 0, 1), 0);
        Edge.answersAlone("slip 9998", () -> barring("9999", 100, "0"), x -> x.barred(0, 0, 9998), 1);
        Edge.answersAlone("slip 9999", () -> barring("9999", 100, "0"), x -> x.barred(0, 0, 9999), 0);
        Edge.sentence(31, "BEYOND.");
        Edge.refusedEach("cell", Scenes.RICH, Check.BEYOND, (x, c) -> x.barred(c, 0, 0), CellEdges.NO_CELLS);
        Edge.refusedEach("law", Scenes.RICH, Check.BEYOND, (x, law) -> x.barred(0, law, 0), MIN, -2, -1, 3, 6, MAX);
        Edge.refusedEach("slip", Scenes.RICH, Check.BEYOND, (x, slip) -> x.barred(0, 0, slip), MIN, -1, 10000, MAX);
    }

    private static void night() {
        Edge.sentence(32, "A NIGHT, by a READ of 0 to 999999.");
        Edge.answersAlone("READ 0", () -> bare(10, 2), x -> x.night(0, 0), 0);
        Edge.answersAlone("READ 999999", Scenes.RICH, x -> x.night(4, 999999), 0);
        Edge.answersAlone("READ 0 of one that is warm", () -> Scenes.heated(0, 10, 9, 110), x -> x.night(0, 0), 1);
        Edge.sentence(32, "BEYOND.");
        Edge.refusedEach("cell", Scenes.RICH, Check.BEYOND, (x, c) -> x.night(c, 0), CellEdges.NO_CELLS);
        Edge.refusedEach("read", Scenes.RICH, Check.BEYOND, (x, read) -> x.night(0, read), MIN, -1, 1000000, MAX);
        Edge.sentence(32, "NONE.");
        Edge.refused("a JACKET below 5", Scenes.RICH, Check.NONE, x -> x.night(4, 4));
        Edge.refused("a COUNTED one below 1", Scenes.RICH, Check.NONE, x -> x.night(5, 0));
        Edge.refused("warm by THE LAW", WouldBeEdges::warm, Check.NONE, x -> x.night(0, 39));
    }

    private static void need() {
        Edge.sentence(33, "NEED (heat 0 to 999999).");
        Edge.answersAlone("heat 0", Scenes.RICH, x -> x.need(0, 0, 1), 0);
        Edge.answersAlone("n 20", Scenes.RICH, x -> x.need(0, 0, 20), 0);
        Edge.answersAlone("300", () -> bare(99, 1), x -> x.need(0, 297, 1), 300);
        Edge.sentence(33, "BEYOND.");
        Edge.refusedEach("cell", Scenes.RICH, Check.BEYOND, (x, c) -> x.need(c, 0, 1), CellEdges.NO_CELLS);
        Edge.refusedEach("heat", Scenes.RICH, Check.BEYOND, (x, heat) -> x.need(0, heat, 1), MIN, -1, 1000000, MAX);
        Edge.refusedEach("n", Scenes.RICH, Check.BEYOND, (x, n) -> x.need(0, 0, n), MIN, -1, 0, 21, MAX);
        Edge.refusedEach("n, ahead of NONE", Scenes.RICH, Check.BEYOND, (x, n) -> x.need(0, 999999, n), 0, 21);
        Edge.sentence(33, "NONE.");
        Edge.refused("heat 999999", Scenes.RICH, Check.NONE, x -> x.need(0, 999999, 20));
        Edge.refused("301 would do", () -> bare(99, 1), Check.NONE, x -> x.need(0, 298, 1));
    }

    /** READS of the next 40 HOURS stand in sheet 2, the first four in sheets 0 (8 bits) and 1 (16 bits); 3 has none. */
    private static WarmGlass reading() {
        WarmGlass x = Scenes.one();
        x.sheet(0, 8, 4);
        x.sheet(1, 16, 4);
        x.sheet(2, 64, 40);
        x.sheet(3, 64, 0);
        int[] reads = {60, 108, 146, 177};
        for (int i = 0; i < 40; i++) {
            if (i < 4) {
                x.write(0, i, reads[i]);
                x.write(1, i, reads[i]);
            }
            x.write(2, i, x.foretold(0, -1, i + 1, 1));
        }
        return x;
    }

    private static long readWith(int s, int i, long v) {
        WarmGlass x = reading();
        x.write(s, i, v);
        return x.read(s, 0);
    }

    private static void read() {
        Edge.sentence(34, "THE READER: numbers of a sheet are READS of a CELL behind each of as many HOURS from now on (by THE"
            + " LAW, its POWER as it is): 0; else 1 more than the place of the first that isn't.");
        Edge.answersAlone("all 40 are", WouldBeEdges::reading, x -> x.read(2, 0), 0);
        Edge.answersAlone("of 16 bits", WouldBeEdges::reading, x -> x.read(1, 0), 0);
        Edge.answersAlone("146 isn't a number of 8 bits", WouldBeEdges::reading, x -> x.read(0, 0), 3);
        Edge.answersAlone("no numbers", WouldBeEdges::reading, x -> x.read(3, 0), 0);
        Edge.due("the first isn't", readWith(2, 0, 61), 1);
        Edge.due("the last isn't", readWith(2, 39, 0), 40);
        Edge.due("the one before isn't", readWith(2, 38, 0), 39);
        Edge.due("the lowest 32 bits alone are", readWith(2, 1, 108 + (1L << 32)), 2);
        Edge.due("of 16 bits they are", readWith(1, 1, 108 + (1L << 32)), 0);
        Edge.due("below 0", readWith(1, 3, -177), 4);
        WarmGlass y = reading();
        y.force(0);
        Edge.due("by THE LAW they aren't", y.read(2, 0), 1);
        int[] byLaw = {68, 122, 166};
        for (int i = 0; i < 3; i++) {
            y.write(2, i, byLaw[i]);
        }
        Edge.due("by THE LAW three are", y.read(2, 0), 4);
        y.force(-1);
        y.power(0, 0);
        Edge.due("with POWER as it is", y.read(1, 0), 1);
        // 100 of HOUR 1 less 20 is 80; 280 less 56 is 224; 524 less 104.
        WarmGlass hourly = new WarmGlass();
        hourly.cell(0, 10020000, 0, 0);
        Check.law(hourly, "mul(h,100)", 0);
        hourly.force(0);
        hourly.hours(1);
        hourly.sheet(0, 8, 3);
        hourly.write(0, 0, 8);
        hourly.write(0, 1, 22);
        hourly.write(0, 2, 42);
        Edge.due("from now on", hourly.read(0, 0), 0);
        WarmGlass last = CellEdges.at(2000);
        last.sheet(0, 64, 1);
        last.write(0, 0, last.foretold(0, 0, 1, 1));
        Edge.due("beyond the last HOUR", last.read(0, 0), 0);
        Edge.sentence(34, "BEYOND: no such sheet.");
        Edge.refusedEach("s", Scenes.RICH, Check.BEYOND, (x, s) -> x.read(s, 0), MIN, -1, 4, MAX);
        Edge.sentence(34, "MISSING.");
        Edge.refused("it is MISSING", Scenes.RICH, Check.MISSING, x -> x.read(3, 0));
        Edge.refusedEach("cell, behind MISSING", Scenes.RICH, Check.MISSING, (x, c) -> x.read(3, c), -1, 6);
        Edge.sentence(34, "BEYOND: no such CELL.");
        Edge.refusedEach("cell", Scenes.RICH, Check.BEYOND, (x, c) -> x.read(0, c), CellEdges.NO_CELLS);
        Edge.refused("cell of no numbers", WouldBeEdges::reading, Check.BEYOND, x -> x.read(3, 1));
    }
}
