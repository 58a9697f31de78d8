/** Promises 1 to 9: a new object, and the cells. */
public final class CellsTest {
    public static void main(String[] args) {
        newObject();
        newCells();
        wrongCells();
        fullOfCells();
        powerAndTop();
        hoursAndTheirEnd();
        anHourOfEachKind();
        cutGas();
        storing();
        waterRunsOut();
        lossIsHeldToHeat();
        makesByTheLaw();
        raysOverTheFloor();
        everSums();
        asKinds();
        wrongWhats();
        Check.end();
    }

    private static void due(String what, long got, long want) {
        Check.due(what, got, want);
    }

    private static void newObject() {
        WarmGlass x = new WarmGlass();
        int[] want = {0, 0, 0, 0, -1, 0, 0};
        for (int what = 0; what < want.length; what++) {
            due("new: count(" + what + ")", x.count(what), want[what]);
        }
        for (int which = -1; which <= 6; which++) {
            due("new: status(" + which + ")", x.status(which), 0);
        }
        due("new: tear()", x.tear(), 0);
        due("new: undo()", x.undo(), Check.NONE);
        due("new: wipe()", x.wipe(), 0);
        due("new: of(0, 0)", x.of(0, 0), Check.BEYOND);
        due("new: tells(0, 0)", x.tells(0, 0), Check.BEYOND);
        due("new: houseOf(0, 0)", x.houseOf(0, 0), Check.BEYOND);
        due("new: saying(0)", x.saying(0), 0);
        due("new: order(0)", x.order(0), Check.NONE);
        for (int s = 0; s <= 3; s++) {
            due("new: sheet " + s + " is MISSING", x.write(s, 0, 1), Check.MISSING);
        }
    }

    private static void newCells() {
        WarmGlass x = new WarmGlass();
        due("least cell", x.cell(0, 1010000, 0, 0), 0);
        due("greatest cell", x.cell(5, 99999999, 100, 9999), 1);
        due("a cell", x.cell(3, 7081234, 56, 789), 2);
        int[] want = {3, 1234, 8, 7, 56, 789, 0, 0, 0, 0};
        for (int what = 0; what < want.length; what++) {
            due("of(2, " + what + ")", x.of(2, what), want[what]);
        }
        for (int what = 0; what <= 4; what++) {
            due("latest(2, " + what + ") at first", x.latest(2, what), 0);
        }
        for (int what = 0; what <= 3; what++) {
            due("ever(2, " + what + ") at first", x.ever(2, what), 0);
        }
        due("of(1, 1)", x.of(1, 1), 9999);
        due("of(1, 9), a COUNTED one's", x.of(1, 9), 1);
    }

    private static void wrongCells() {
        WarmGlass x = new WarmGlass();
        due("kind -1", x.cell(-1, 1010000, 0, 0), Check.BEYOND);
        due("kind 6", x.cell(6, 1010000, 0, 0), Check.BEYOND);
        due("of below 0", x.cell(0, -1010000, 0, 0), Check.BEYOND);
        due("of least int", x.cell(0, Integer.MIN_VALUE, 0, 0), Check.BEYOND);
        due("of greatest int", x.cell(0, Integer.MAX_VALUE, 0, 0), Check.BEYOND);
        due("MASS 0", x.cell(0, 10000, 0, 0), Check.BEYOND);
        due("MASS 100", x.cell(0, 100010000, 0, 0), Check.BEYOND);
        due("LOSS 0", x.cell(0, 1000001, 0, 0), Check.BEYOND);
        due("gas -1", x.cell(0, 1010000, -1, 0), Check.BEYOND);
        due("gas 101", x.cell(0, 1010000, 101, 0), Check.BEYOND);
        due("water -1", x.cell(0, 1010000, 0, -1), Check.BEYOND);
        due("water 10000", x.cell(0, 1010000, 0, 10000), Check.BEYOND);
        due("no CELLS", x.count(1), 0);
        due("all are counted", x.status(0), 12);
    }

    private static void fullOfCells() {
        WarmGlass x = new WarmGlass();
        for (int i = 0; i < 8; i++) {
            due("cell " + i, x.cell(0, 1010000, 0, 0), i);
        }
        due("the ninth", x.cell(0, 1010000, 0, 0), Check.FULL);
        due("BEYOND is asked ahead of FULL", x.cell(0, 0, 0, 0), Check.BEYOND);
        due("CELLS", x.count(1), 8);
    }

    private static void powerAndTop() {
        WarmGlass x = new WarmGlass();
        x.cell(0, 1010007, 0, 9990);
        due("power", x.power(0, 9999), 7);
        due("power again", x.power(0, 0), 9999);
        due("power -1", x.power(0, -1), Check.BEYOND);
        due("power 10000", x.power(0, 10000), Check.BEYOND);
        due("power of no CELL", x.power(1, 5), Check.BEYOND);
        due("power of CELL -1", x.power(-1, 5), Check.BEYOND);
        due("POWER stays", x.of(0, 1), 0);
        due("top 5", x.top(0, 5), 9995);
        due("top 5 again, held", x.top(0, 5), 9999);
        due("top 9999", x.top(0, 9999), 9999);
        due("top 0", x.top(0, 0), Check.BEYOND);
        due("top 10000", x.top(0, 10000), Check.BEYOND);
        due("top of no CELL", x.top(1, 1), Check.BEYOND);
        due("WATER", x.of(0, 5), 9999);
    }

    private static void hoursAndTheirEnd() {
        WarmGlass x = new WarmGlass();
        due("hours(0)", x.hours(0), Check.BEYOND);
        due("hours(101)", x.hours(101), Check.BEYOND);
        due("hours(-1)", x.hours(-1), Check.BEYOND);
        for (int i = 1; i < 20; i++) {
            due("hours(100)", x.hours(100), 100 * i);
        }
        due("hours(99)", x.hours(99), 1999);
        due("hours(2) at 1999", x.hours(2), Check.STATE);
        due("NOW stays", x.count(0), 1999);
        due("hours(1) at 1999", x.hours(1), 2000);
        due("hours(1) at 2000", x.hours(1), Check.STATE);
        due("hours(101) at 2000", x.hours(101), Check.BEYOND);
    }

    private static void anHourOfEachKind() {
        // POWER 1000, of which 250 is GAS; MASS 10, LOSS 2.
        int[] goes = {250, 250, 125, 250, 250, 100};
        int[] loses = {150, 150, 174, 120, 150, 180};
        int[] heat = {600, 600, 701, 480, 600, 720};
        int[] read = {60, 66, 77, 48, 35, 80};
        int[] warmth = {60, 60, 70, 48, 60, 72};
        WarmGlass x = new WarmGlass();
        for (int kind = 0; kind < 6; kind++) {
            x.cell(kind, 10021000, 25, 100);
        }
        x.hours(1);
        int all = 0;
        for (int kind = 0; kind < 6; kind++) {
            due("GIVES of " + kind, x.latest(kind, 0), 1000);
            due("GOES of " + kind, x.latest(kind, 1), goes[kind]);
            due("MAKES of " + kind, x.latest(kind, 2), 0);
            due("LOSES of " + kind, x.latest(kind, 3), loses[kind]);
            due("RAYS of " + kind, x.latest(kind, 4), 0);
            due("WATER of " + kind, x.of(kind, 5), 97);
            due("HEAT of " + kind, x.of(kind, 6), heat[kind]);
            due("STORE of " + kind, x.of(kind, 7), kind == 3 ? 150 : 0);
            due("WARMTH of " + kind, x.of(kind, 8), warmth[kind]);
            due("READ of " + kind, x.of(kind, 9), read[kind]);
            all += heat[kind];
        }
        due("HEAT of all", x.count(6), all);
    }

    private static void cutGas() {
        // GAS of it is 109: a BURNING one has 54 back, a COUNTED one 64.
        WarmGlass x = new WarmGlass();
        x.cell(2, 99010333, 33, 10);
        x.cell(5, 99010333, 33, 10);
        x.hours(1);
        due("GOES of BURNING", x.latest(0, 1), 55);
        due("GOES of COUNTED", x.latest(1, 1), 45);
        due("WATER of two begun hundreds", x.of(0, 5), 8);
    }

    private static void storing() {
        WarmGlass x = new WarmGlass();
        x.cell(3, 99012500, 0, 5);
        x.cell(3, 99012495, 0, 5);
        x.hours(1);
        due("STORE 500", x.of(0, 7), 500);
        due("HEAT of four fifths", x.of(0, 6), 1980);
        due("STORE 499", x.of(1, 7), 499);
        x.hours(1);
        due("STORE of just 1000 is empty", x.of(0, 7), 0);
        due("HEAT with all of it", x.of(0, 6), 4930);
        due("STORE of 998 stays", x.of(1, 7), 998);
    }

    private static void waterRunsOut() {
        WarmGlass x = new WarmGlass();
        x.cell(0, 99010100, 100, 1);
        x.cell(0, 99010101, 100, 1);
        x.cell(0, 99010050, 0, 0);
        x.cell(0, 99010050, 0, 1);
        x.hours(1);
        due("WATER of one hundred", x.of(0, 5), 0);
        due("WATER is 0 at least", x.of(1, 5), 0);
        due("without WATER none counts", x.latest(2, 0), 0);
        due("POWER is as told", x.of(2, 1), 50);
        due("without GAS WATER stays", x.of(3, 5), 1);
        due("it counted", x.latest(0, 0), 100);
        x.hours(1);
        due("it counts no more", x.latest(0, 0), 0);
        due("nor does it go", x.latest(0, 1), 0);
        due("PUT", x.ever(0, 0), 100);
        x.top(0, 1);
        x.hours(1);
        due("with WATER it counts again", x.ever(0, 0), 200);
    }

    private static void lossIsHeldToHeat() {
        WarmGlass x = new WarmGlass();
        x.cell(0, 1990050, 0, 1);
        x.cell(0, 50990049, 0, 1);
        x.hours(1);
        due("LOSES all of HEAT", x.latest(0, 3), 50);
        due("HEAT", x.of(0, 6), 0);
        due("WARMTH 0 loses nothing", x.latest(1, 3), 0);
        due("HEAT below MASS", x.of(1, 6), 49);
    }

    private static void makesByTheLaw() {
        WarmGlass x = new WarmGlass();
        x.cell(0, 99010100, 100, 5);
        x.cell(0, 99010100, 0, 0);
        Check.law(x, "w", 0);
        Check.law(x, "p", 0);
        Check.law(x, "less(0,5)", 100);
        Check.law(x, "mul(9999,9999)", 100);
        Check.law(x, "sum(t,mul(h,100))", 0);
        x.force(0);
        x.hours(1);
        due("WATER as it was when the HOUR began", x.latest(0, 2), 5);
        due("HEAT of MAKES", x.of(0, 6), 5);
        x.force(1);
        x.hours(1);
        due("p", x.latest(0, 2), 100);
        due("p without WATER", x.latest(1, 2), 0);
        x.force(2);
        x.hours(1);
        due("MAKES is 0 at least", x.latest(0, 2), 0);
        due("RAYS of it", x.latest(0, 4), 0);
        x.force(3);
        x.hours(1);
        due("MAKES is 9999 at most", x.latest(0, 2), 9999);
        due("RAYS of that", x.latest(0, 4), 9999);
        int warmth = x.of(0, 8);
        x.force(4);
        x.hours(1);
        due("t and h when it began", x.latest(0, 2), warmth + 400);
        x.force(-1);
        x.hours(1);
        due("without a LAW none", x.latest(0, 2), 0);
    }

    private static void raysOverTheFloor() {
        WarmGlass x = new WarmGlass();
        x.cell(0, 10021000, 25, 100);
        x.cell(0, 10020100, 100, 1);
        Check.told(x, "sum(sum(t,w),sum(h,sum(c,p)))", 0);
        Check.law(x, "11", 250);
        x.force(0);
        x.hours(1);
        // HEAT 750 and 11 less 152: WARMTH 60; WATER 97; h 0; c 0; p 1000; and 27 of MAKES.
        due("RAYS", x.latest(0, 4), 60 + 97 + 0 + 0 + 1000 + 27);
        // HEAT 11 less 2: WARMTH 0; its WATER is gone, so p is 0 now; c 1.
        due("RAYS of one without WATER now", x.latest(1, 4), 1 + 27);
        x.hours(1);
        due("h is the HOUR that goes", x.latest(1, 4), x.of(1, 8) + 1 + 1 + 27);
        WarmGlass y = new WarmGlass();
        y.cell(0, 10020000, 0, 1);
        Check.told(y, "less(mul(mul(mul(8,8192),8192),4),1)", 0);
        Check.law(y, "100", 1);
        y.force(0);
        y.hours(1);
        due("RAYS go round", y.latest(0, 4), Integer.MIN_VALUE);
    }

    private static void everSums() {
        WarmGlass x = new WarmGlass();
        x.cell(0, 10021000, 25, 100);
        Check.law(x, "30", 0);
        x.force(0);
        x.hours(2);
        // HEAT 780 less 156 is 624; 1404 less 280 is 1124.
        due("PUT", x.ever(0, 0), 2000);
        due("GONE", x.ever(0, 1), 500);
        due("MADE", x.ever(0, 2), 60);
        due("LOST", x.ever(0, 3), 436);
        due("HEAT", x.of(0, 6), 1124);
    }

    private static void asKinds() {
        // Rows: a CELL's KIND; columns: as which kind.
        String[] isOf = {"100000", "110000", "111000", "100100", "100010", "111001"};
        int[] read = {60, 66, 77, 48, 35, 80};
        WarmGlass x = new WarmGlass();
        for (int kind = 0; kind < 6; kind++) {
            x.cell(kind, 10021000, 25, 100);
        }
        x.hours(1);
        for (int kind = 0; kind < 6; kind++) {
            for (int as = 0; as < 6; as++) {
                long want = isOf[kind].charAt(as) == '1' ? read[kind] : Check.KIND;
                due("as(" + kind + ", " + as + ")", x.as(kind, as), want);
            }
        }
        due("as of no CELL", x.as(6, 0), Check.BEYOND);
        due("as kind 6", x.as(0, 6), Check.BEYOND);
        due("as kind -1", x.as(0, -1), Check.BEYOND);
    }

    private static void wrongWhats() {
        WarmGlass x = new WarmGlass();
        x.cell(0, 10021000, 25, 100);
        due("of what -1", x.of(0, -1), Check.BEYOND);
        due("of what 10", x.of(0, 10), Check.BEYOND);
        due("of no CELL", x.of(1, 0), Check.BEYOND);
        due("latest what -1", x.latest(0, -1), Check.BEYOND);
        due("latest what 5", x.latest(0, 5), Check.BEYOND);
        due("latest of no CELL", x.latest(-1, 0), Check.BEYOND);
        due("ever what -1", x.ever(0, -1), Check.BEYOND);
        due("ever what 4", x.ever(0, 4), Check.BEYOND);
        due("ever of no CELL", x.ever(8, 0), Check.BEYOND);
        due("all are BEYOND", x.status(0), 9);
    }
}
