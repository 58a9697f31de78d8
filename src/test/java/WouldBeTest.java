/** Promises 27 to 34: what would be. */
public final class WouldBeTest {
    public static void main(String[] args) {
        foretold();
        foretoldOfStoreAndWater();
        foretoldBeyondTheLastHour();
        parted();
        look();
        must();
        barred();
        night();
        need();
        reader();
        nothingIsChanged();
        Check.end();
    }

    private static void due(String what, long got, long want) {
        Check.due(what, got, want);
    }

    private static void foretold() {
        WarmGlass x = Scenes.one();
        due("HEAT behind none", x.foretold(0, 0, 0, 0), 0);
        due("RAYS behind none are the latest", x.foretold(0, 0, 0, 2), 0);
        due("HEAT behind 1", x.foretold(0, 0, 1, 0), 680);
        due("READ behind 2", x.foretold(0, 0, 2, 1), 122);
        due("READ behind 3", x.foretold(0, 0, 3, 1), 166);
        due("READ behind 4 by none", x.foretold(0, -1, 4, 1), 177);
        due("RAYS by LAW 0", x.foretold(0, 0, 2, 2), 57);
        due("RAYS by none", x.foretold(0, -1, 2, 2), 7);
        x.force(0);
        x.hours(1);
        due("by none in place of THE LAW", x.foretold(0, -1, 1, 0), 1144);
        due("RAYS behind none are the latest", x.foretold(0, -1, 0, 2), 57);
        Check.told(x, "h", 0);
        due("h goes on in RAYS", x.foretold(0, -1, 5, 2), 5);
        Check.law(x, "h", 0);
        due("h goes on in the LAW", x.foretold(0, 1, 2, 0), 1519);
        due("no CELL", x.foretold(1, 0, 1, 0), Check.BEYOND);
        due("LAW 2", x.foretold(0, 2, 1, 0), Check.BEYOND);
        due("LAW -2", x.foretold(0, -2, 1, 0), Check.BEYOND);
        due("n -1", x.foretold(0, 0, -1, 0), Check.BEYOND);
        due("n 101", x.foretold(0, 0, 101, 0), Check.BEYOND);
        due("what -1", x.foretold(0, 0, 1, -1), Check.BEYOND);
        due("what 5", x.foretold(0, 0, 1, 5), Check.BEYOND);
        due("all are BEYOND", x.status(0), 7);
    }

    private static void foretoldOfStoreAndWater() {
        WarmGlass x = new WarmGlass();
        x.cell(3, 99011000, 10, 5);
        due("STORE behind 3", x.foretold(0, -1, 3, 3), 540);
        due("WATER behind 3", x.foretold(0, -1, 3, 4), 2);
        due("WATER behind 100", x.foretold(0, -1, 100, 4), 0);
        due("STORE behind 100: five counted", x.foretold(0, -1, 100, 3), 900);
        Check.law(x, "c", 0);
        x.cell(3, 99010000, 10, 5);
        due("c is the CELL's number", x.foretold(1, 0, 3, 0), 3);
    }

    private static void foretoldBeyondTheLastHour() {
        WarmGlass x = Scenes.one();
        for (int i = 0; i < 20; i++) {
            x.hours(100);
        }
        x.power(0, 0);
        Check.law(x, "less(h,2000)", 100);
        Check.told(x, "0", 0);
        due("h goes on above 2000", x.foretold(0, 1, 51, 2), 50);
        due("a night goes on as well", x.night(0, 0) > 1 ? 1 : 0, 1);
        due("NOW", x.count(0), 2000);
    }

    private static void parted() {
        WarmGlass x = Scenes.one();
        due("by 8", x.parted(0, 0, -1, 8), 1);
        due("by 9", x.parted(0, 0, -1, 9), 2);
        due("by 14", x.parted(0, -1, 0, 14), 2);
        due("by 15", x.parted(0, -1, 0, 15), 3);
        due("by 9999", x.parted(0, 0, -1, 9999), Check.NONE);
        due("one and itself", x.parted(0, 0, 0, 1), Check.NONE);
        Check.law(x, "if(less(h,49),0,1000)", 0);
        Check.law(x, "if(less(h,50),0,1000)", 0);
        due("in the 50th", x.parted(0, -1, 1, 1), 50);
        due("in the 50th, the other way", x.parted(0, 1, -1, 1), 50);
        due("in the 51st", x.parted(0, -1, 2, 1), Check.NONE);
        due("no CELL", x.parted(1, 0, -1, 1), Check.BEYOND);
        due("LAW 3", x.parted(0, 3, -1, 1), Check.BEYOND);
        due("other LAW -2", x.parted(0, 0, -2, 1), Check.BEYOND);
        due("by 0", x.parted(0, 0, -1, 0), Check.BEYOND);
        due("by 10000", x.parted(0, 0, -1, 10000), Check.BEYOND);
    }

    private static void look() {
        WarmGlass x = Scenes.one();
        Check.law(x, "100", 80);
        Check.law(x, "100", 81);
        Check.law(x, "100", 79);
        due("HEAT", x.look(0, 0, -1, 1), 2);
        due("of like ones RAYS", x.look(0, 1, -1, 1), 1);
        due("RAYS", x.look(0, -1, 2, 1), 1);
        due("HEAT by one", x.look(0, -1, 3, 1), 2);
        due("RAYS alone", x.look(0, 1, 2, 100), 1);
        due("none is apart", x.look(0, 0, 0, 5), Check.NONE);
        due("no CELL", x.look(1, 0, 1, 1), Check.BEYOND);
        due("LAW 4", x.look(0, 4, 1, 1), Check.BEYOND);
        due("other LAW -2", x.look(0, 0, -2, 1), Check.BEYOND);
        due("n 0", x.look(0, 0, 1, 0), Check.BEYOND);
        due("n 101", x.look(0, 0, 1, 101), Check.BEYOND);
        // HEAT 9 and 11 less 1: READ 0 and 1.
        WarmGlass y = new WarmGlass();
        y.cell(0, 10010000, 0, 0);
        Check.law(y, "9", 0);
        Check.law(y, "11", 0);
        due("of like ones READ", y.look(0, 0, 1, 1), 0);
        WarmGlass z = new WarmGlass();
        z.cell(0, 10010000, 0, 0);
        Check.told(z, "if(less(t,0),mul(mul(9999,9999),20),less(0,mul(mul(9999,9999),20)))", 0);
        Check.law(z, "9999", 999);
        due("RAYS far apart", z.look(0, 0, -1, 1), 1);
    }

    private static void must() {
        WarmGlass x = Scenes.one();
        Check.law(x, "mul(9999,9999)", 999);
        Check.law(x, "less(0,1)", 999);
        Check.law(x, "33", 10);
        due("MUST", x.must(0, 0), 50);
        due("at most", x.must(0, 1), 99890);
        due("at least", x.must(0, 2), 0);
        due("cut", x.must(0, 3), 3);
        due("no CELL", x.must(1, 0), Check.BEYOND);
        due("LAW 4", x.must(0, 4), Check.BEYOND);
        due("LAW -1", x.must(0, -1), Check.BEYOND);
    }

    private static void barred() {
        WarmGlass x = Scenes.one();
        due("slip 56", x.barred(0, 0, 56), 1);
        due("slip 57", x.barred(0, 0, 57), 0);
        x.force(0);
        x.hours(1);
        due("RAYS are there", x.barred(0, 0, 0), 0);
        Check.told(x, "8", 0);
        due("FLOOR now", x.barred(0, 0, 0), 1);
        due("a slip of 1", x.barred(0, 0, 1), 0);
        due("slip -1", x.barred(0, 0, -1), Check.BEYOND);
        due("slip 10000", x.barred(0, 0, 10000), Check.BEYOND);
        due("no CELL", x.barred(1, 0, 0), Check.BEYOND);
        due("LAW -1", x.barred(0, -1, 0), Check.BEYOND);
        due("LAW 1", x.barred(0, 1, 0), Check.BEYOND);
        Check.told(x, "mul(mul(mul(8,8192),8192),4)", 0);
        due("far above FLOOR", x.barred(0, 0, 0), 0);
    }

    private static void night() {
        WarmGlass x = Scenes.one();
        due("READ is so now", x.night(0, 0), 0);
        x.hours(4);
        due("READ", x.of(0, 9), 177);
        due("at once", x.night(0, 177), 0);
        due("behind 1", x.night(0, 176), 1);
        due("behind 1 still", x.night(0, 141), 1);
        due("behind 2", x.night(0, 140), 2);
        due("POWER stays", x.of(0, 1), 1000);
        Check.law(x, "mul(p,9999)", 0);
        x.force(1);
        due("p is 0", x.night(0, 141), 1);
        x.force(0);
        due("THE LAW goes on", x.night(0, 10), Check.NONE);
        due("read -1", x.night(0, -1), Check.BEYOND);
        due("read 1000000", x.night(0, 1000000), Check.BEYOND);
        due("read 999999", x.night(0, 999999), 0);
        due("no CELL", x.night(1, 0), Check.BEYOND);
        // By 100 an HOUR it stays at READ 40; without, it goes below that at once.
        WarmGlass y = new WarmGlass();
        y.cell(0, 10020000, 0, 1);
        Check.law(y, "100", 0);
        Check.law(y, "if(max(0,less(259,h)),100,0)", 0);
        Check.law(y, "if(max(0,less(260,h)),100,0)", 0);
        y.force(0);
        y.hours(60);
        due("READ", y.of(0, 9), 40);
        y.force(1);
        due("in the 200th", y.night(0, 39), 200);
        y.force(2);
        due("in the 201st", y.night(0, 39), Check.NONE);
    }

    private static void need() {
        WarmGlass x = new WarmGlass();
        x.cell(0, 10020000, 0, 0);
        x.cell(0, 99010000, 0, 0);
        due("none", x.need(0, 0, 1), 0);
        due("80", x.need(0, 80, 1), 98);
        due("81, though 100 makes less", x.need(0, 81, 1), 99);
        due("82", x.need(0, 82, 1), 102);
        due("the most of it", x.need(0, 241, 1), 299);
        due("above it", x.need(0, 242, 1), Check.NONE);
        due("300", x.need(1, 297, 1), 300);
        due("above 300", x.need(1, 298, 1), Check.NONE);
        due("of two HOURS", x.need(1, 100, 2), 51);
        due("999999", x.need(0, 999999, 20), Check.NONE);
        Check.law(x, "9999", 0);
        x.force(0);
        due("in place of THE LAW", x.need(0, 80, 1), 98);
        due("heat -1", x.need(0, -1, 1), Check.BEYOND);
        due("heat 1000000", x.need(0, 1000000, 1), Check.BEYOND);
        due("n 0", x.need(0, 0, 0), Check.BEYOND);
        due("n 21", x.need(0, 0, 21), Check.BEYOND);
        due("no CELL", x.need(2, 0, 1), Check.BEYOND);
        due("n 20", x.need(0, 0, 20), 0);
        WarmGlass y = Scenes.one();
        due("with POWER as it is", y.need(0, 600, 1), 0);
        due("and more", y.need(0, 680, 1), 98);
    }

    private static void reader() {
        WarmGlass x = Scenes.one();
        int[] reads = {60, 108, 146, 177};
        x.sheet(0, 64, 4);
        for (int i = 0; i < reads.length; i++) {
            x.write(0, i, reads[i]);
        }
        due("as they are", x.read(0, 0), 0);
        x.write(0, 2, 147);
        due("the third isn't", x.read(0, 0), 3);
        x.write(0, 0, 60L + (1L << 32));
        due("the first isn't", x.read(0, 0), 1);
        x.force(0);
        x.write(0, 0, 68);
        x.write(0, 1, 122);
        due("by THE LAW", x.read(0, 0), 3);
        x.sheet(1, 8, 0);
        due("no numbers", x.read(1, 0), 0);
        due("sheet -1", x.read(-1, 9), Check.BEYOND);
        due("sheet 4", x.read(4, 0), Check.BEYOND);
        due("MISSING is asked ahead of the CELL", x.read(2, 9), Check.MISSING);
        due("no CELL", x.read(0, 1), Check.BEYOND);
        WarmGlass y = new WarmGlass();
        y.cell(0, 10020000, 0, 1);
        Check.law(y, "mul(h,100)", 0);
        y.force(0);
        y.hours(1);
        // HEAT 100 less 20; 280 less 56; 524 less 104.
        y.sheet(0, 16, 3);
        y.write(0, 0, 8);
        y.write(0, 1, 22);
        y.write(0, 2, 42);
        due("h goes on", y.read(0, 0), 0);
        y.write(0, 2, 41);
        due("the last isn't", y.read(0, 0), 3);
        x.power(0, 9999);
        x.sheet(3, 8, 1);
        x.write(3, 0, x.foretold(0, 0, 1, 1));
        due("8 bits are too few", x.read(3, 0), 1);
    }

    private static void nothingIsChanged() {
        WarmGlass x = Scenes.one();
        x.house(1000, 1);
        x.hours(3);
        x.foretold(0, 0, 100, 0);
        x.parted(0, 0, -1, 9999);
        x.look(0, 0, -1, 100);
        x.night(0, 0);
        x.need(0, 999999, 20);
        x.must(0, 0);
        x.barred(0, 0, 0);
        due("HEAT", x.of(0, 6), 1464);
        due("WATER", x.of(0, 5), 9990);
        due("POWER", x.of(0, 1), 1000);
        due("RAYS", x.latest(0, 4), 7);
        due("PUT", x.ever(0, 0), 3000);
        due("MADE", x.ever(0, 2), 0);
        due("HOURS of the HOUSE", x.houseOf(0, 5), 3);
        due("NOW", x.count(0), 3);
        due("THE LAW", x.count(4), -1);
    }
}
