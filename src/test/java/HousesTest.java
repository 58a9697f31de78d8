/** Promises 17 to 26: the houses. */
public final class HousesTest {
    public static void main(String[] args) {
        newHouses();
        wrongHouses();
        balances();
        chosenHours();
        moreAndTakenBack();
        orderOfHouses();
        besideEachOther();
        sharedCoins();
        sharedRests();
        leastBalances();
        lines();
        Check.end();
    }

    private static void due(String what, long got, long want) {
        Check.due(what, got, want);
    }

    private static void newHouses() {
        WarmGlass x = new WarmGlass();
        x.cell(0, 1010000, 0, 0);
        x.cell(0, 1010000, 0, 0);
        due("a house", x.house(99111, 99999), 0);
        due("the least", x.house(1000, 1), 1);
        int[] want = {1, 99, 1, 1, 99999, 0, 0, 0, 0, 0};
        for (int what = 0; what < want.length; what++) {
            due("houseOf(0, " + what + ")", x.houseOf(0, what), want[what]);
        }
        int[] wantLeast = {0, 1, 0, 0, 1, 0, 0, 0, 0, 0};
        for (int what = 0; what < wantLeast.length; what++) {
            due("houseOf(1, " + what + ")", x.houseOf(1, what), wantLeast[what]);
        }
        due("what -1", x.houseOf(0, -1), Check.BEYOND);
        due("what 10", x.houseOf(0, 10), Check.BEYOND);
        due("house 2", x.houseOf(2, 0), Check.BEYOND);
        due("house -1", x.houseOf(-1, 0), Check.BEYOND);
        for (int i = 2; i < 8; i++) {
            due("house " + i, x.house(1000, 1), i);
        }
        due("the ninth", x.house(1000, 1), Check.FULL);
        due("BEYOND is asked ahead of FULL", x.house(1000, 0), Check.BEYOND);
        due("HOUSES", x.count(3), 8);
    }

    private static void wrongHouses() {
        WarmGlass x = new WarmGlass();
        due("no CELL", x.house(1000, 1), Check.BEYOND);
        x.cell(0, 1010000, 0, 0);
        due("CELL 1", x.house(1001, 1), Check.BEYOND);
        due("CELL 9", x.house(1009, 1), Check.BEYOND);
        due("LOSS 0", x.house(110, 1), Check.BEYOND);
        due("LOSS 100", x.house(100000, 1), Check.BEYOND);
        due("GAS 2", x.house(1200, 1), Check.BEYOND);
        due("CHOOSES 2", x.house(1020, 1), Check.BEYOND);
        due("of below 0", x.house(-1000, 1), Check.BEYOND);
        due("of least int", x.house(Integer.MIN_VALUE, 1), Check.BEYOND);
        due("limit 0", x.house(1000, 0), Check.BEYOND);
        due("limit 100000", x.house(1000, 100000), Check.BEYOND);
        due("no HOUSES", x.count(3), 0);
        due("all are BEYOND", x.status(0), 11);
    }

    private static void balances() {
        // READS are 60, 108, 146; POWER 1000, GAS of it 250.
        WarmGlass x = new WarmGlass();
        x.cell(0, 10021000, 25, 9999);
        x.house(10000, 99999);
        x.house(10100, 99999);
        x.hours(1);
        due("by GAS gone", x.houseOf(0, 6), -150);
        due("by GAS back", x.houseOf(1, 6), -400);
        due("the lesser", x.houseOf(0, 7), -400);
        due("the greater", x.houseOf(1, 8), -150);
        x.hours(2);
        due("by GAS gone, of three", x.houseOf(0, 6), -150 + 330 + 710);
        due("by GAS back, of three", x.houseOf(1, 6), -400 + 80 + 460);
        due("HOURS", x.houseOf(0, 5), 3);
        WarmGlass y = new WarmGlass();
        y.cell(5, 10021000, 25, 2);
        y.house(1000, 99999);
        y.hours(1);
        due("POWER as it counted, and GAS of it whatever came back", y.houseOf(0, 6), 80 - 750);
        y.hours(1);
        due("without WATER none counted", y.houseOf(0, 6), 80 - 750 + y.of(0, 9));
    }

    private static void chosenHours() {
        WarmGlass x = Scenes.jacket();
        x.house(1010, 99999);
        x.house(1000, 99999);
        x.hours(1);
        due("without CHOICE it counts", x.houseOf(0, 5), 1);
        Check.told(x, "less(h,2)", 1);
        x.hours(3);
        due("h is the HOUR that has gone: 1, 2 not, 3", x.houseOf(0, 5), 3);
        due("ITS BALANCE", x.houseOf(0, 6), 15);
        due("who doesn't choose counts all", x.houseOf(1, 5), 4);
        Check.told(x, "less(t,5)", 1);
        x.hours(2);
        due("t is READ: none", x.houseOf(0, 5), 3);
        Check.told(x, "less(w,9998)", 1);
        x.power(0, 1);
        x.hours(1);
        due("WATER stays without GAS", x.houseOf(0, 5), 4);
        WarmGlass y = new WarmGlass();
        y.cell(4, 99010100, 100, 1);
        y.house(1010, 99999);
        Check.told(y, "sum(w,p)", 1);
        y.hours(1);
        due("all else as it is behind the HOUR", y.houseOf(0, 5), 0);
    }

    private static void moreAndTakenBack() {
        WarmGlass x = Scenes.jacket();
        x.house(2000, 20);
        due("at first", x.houseOf(0, 9), 0);
        x.hours(1);
        due("10", x.houseOf(0, 6), 10);
        due("nothing yet", x.houseOf(0, 9), 0);
        due("saying(0)", x.saying(0), 1);
        due("since MORE", x.since(0, 0), Check.NONE);
        x.hours(1);
        due("20", x.houseOf(0, 6), 20);
        due("MORE", x.houseOf(0, 9), 1);
        due("since MORE", x.since(0, 0), 1);
        due("not taken back", x.since(0, 1), Check.NONE);
        due("saying(1)", x.saying(1), 1);
        x.power(0, 15);
        x.hours(3);
        due("5", x.houseOf(0, 6), 5);
        due("MORE still", x.houseOf(0, 9), 1);
        x.hours(1);
        due("0", x.houseOf(0, 6), 0);
        due("taken back", x.houseOf(0, 9), 2);
        due("since taken back", x.since(0, 1), 5);
        due("since MORE still", x.since(0, 0), 1);
        due("saying(2)", x.saying(2), 1);
        due("saying(1)", x.saying(1), 0);
        due("order(0)", x.order(0), 0);
        x.power(0, 0);
        x.hours(100);
        due("it stays so", x.houseOf(0, 9), 2);
        due("since stays", x.since(0, 1), 5);
        due("what -1", x.since(0, -1), Check.BEYOND);
        due("what 2", x.since(0, 2), Check.BEYOND);
        due("no HOUSE", x.since(1, 0), Check.BEYOND);
        due("saying(-1)", x.saying(-1), Check.BEYOND);
        due("saying(3)", x.saying(3), Check.BEYOND);
    }

    private static WarmGlass three() {
        WarmGlass x = Scenes.jacket();
        x.house(2000, 20);
        x.house(4000, 20);
        x.house(2000, 20);
        x.house(1000, 16);
        return x;
    }

    private static void orderOfHouses() {
        WarmGlass x = three();
        x.hours(3);
        due("MORE as a set", x.saying(1), 7);
        due("nothing as a set", x.saying(0), 8);
        due("first", x.order(0), 1);
        due("second", x.order(1), 0);
        due("third", x.order(2), 2);
        due("fourth", x.order(3), Check.NONE);
        due("i -1", x.order(-1), Check.BEYOND);
        due("greatest i", x.order(Integer.MAX_VALUE), Check.NONE);
        x.hours(1);
        due("fourth, now", x.order(3), 3);
    }

    private static void besideEachOther() {
        WarmGlass x = three();
        due("none has counted", x.beside(0, 1), Check.NONE);
        x.hours(3);
        due("less", x.beside(0, 1), -1);
        due("more", x.beside(1, 0), 1);
        due("alike", x.beside(0, 2), 0);
        due("one and itself", x.beside(1, 1), Check.BEYOND);
        due("no such first", x.beside(4, 1), Check.BEYOND);
        due("no such other", x.beside(1, -1), Check.BEYOND);
        x.house(3000, 99999);
        due("one has counted none", x.beside(0, 4), Check.NONE);
        due("the other way", x.beside(4, 0), Check.NONE);
        x.hours(1);
        due("15 of 1 beside 40 of 4", x.beside(4, 0), 1);
        due("15 of 1 beside 80 of 4", x.beside(4, 1), -1);
    }

    private static void sharedCoins() {
        WarmGlass x = three();
        due("none says MORE", x.shared(10, 0), Check.NONE);
        due("BEYOND is asked ahead of it", x.shared(-1, 0), Check.BEYOND);
        x.hours(3);
        // BALANCES 30, 60, 30 (and 15 of one that says nothing).
        due("the least number of like rests", x.shared(10, 0), 3);
        due("no rest", x.shared(10, 1), 5);
        due("the later of like rests", x.shared(10, 2), 2);
        due("who says nothing", x.shared(10, 3), 0);
        due("no coins", x.shared(0, 0), 0);
        due("one coin to the greatest rest", x.shared(1, 1), 1);
        due("one coin, not to others", x.shared(1, 0), 0);
        due("all coins, first", x.shared(999999, 0), 250000);
        due("all coins, second", x.shared(999999, 1), 499999);
        due("all coins, third", x.shared(999999, 2), 250000);
        due("coins 1000000", x.shared(1000000, 0), Check.BEYOND);
        due("no HOUSE", x.shared(1, 4), Check.BEYOND);
        due("HOUSE -1", x.shared(1, -1), Check.BEYOND);
    }

    private static void sharedRests() {
        // One that took it back with a BALANCE above 0 again gets nothing.
        WarmGlass x = Scenes.jacket();
        x.house(2000, 10);
        x.house(9000, 10);
        x.house(7000, 10);
        x.hours(1);
        x.power(0, 20);
        x.hours(1);
        due("taken back", x.houseOf(0, 9), 2);
        x.power(0, 0);
        x.hours(2);
        due("its BALANCE", x.houseOf(0, 6), 20);
        due("no coins for it", x.shared(100, 0), 0);
        // BALANCES 160 and 120: 57 and 1/7, 42 and 6/7.
        due("160", x.houseOf(1, 6), 160);
        due("120", x.houseOf(2, 6), 120);
        due("the lesser rest", x.shared(100, 1), 57);
        due("the greater rest", x.shared(100, 2), 43);
    }

    private static void leastBalances() {
        // READ 5 and POWER 4 is 1 an HOUR; READ 5 and POWER 5 is 0.
        WarmGlass x = new WarmGlass();
        x.cell(4, 99010004, 0, 9999);
        x.cell(4, 99010005, 0, 9999);
        x.house(1000, 1);
        x.house(1001, 1);
        x.house(1000, 2);
        x.hours(1);
        due("1 is MORE", x.saying(1), 1);
        due("a BALANCE of 1 gets all", x.shared(7, 0), 7);
        due("others none", x.shared(7, 1), 0);
        due("1 above 0", x.beside(0, 1), 1);
        due("0 below 1", x.beside(1, 0), -1);
        x.hours(1);
        due("2 is MORE", x.saying(1), 5);
        due("2 of 2 beside 0", x.beside(2, 1), 1);
        x.power(0, 6);
        x.hours(1);
        due("1", x.houseOf(0, 6), 1);
        due("1 isn't taken back", x.saying(1), 5);
        due("the half", x.shared(7, 0), 4);
        due("the half, less", x.shared(7, 2), 3);
        x.hours(1);
        due("0 is taken back", x.saying(2), 5);
        due("none is left", x.shared(7, 0), Check.NONE);
    }

    private static void lines() {
        WarmGlass x = three();
        due("line at first", x.line(0, 5), 0);
        due("not SHOWN: not MOVED", x.moved(0), 0);
        due("show", x.show(0), 5);
        due("the same one", x.line(0, 5), 5);
        due("not MOVED", x.moved(0), 0);
        due("another one", x.line(0, 999), 5);
        due("MOVED", x.moved(0), 1);
        due("another one still", x.line(0, 0), 999);
        due("MOVED twice", x.moved(0), 2);
        due("show again", x.show(0), 0);
        due("other HOUSES are alone", x.line(1, 7), 0);
        due("not MOVED", x.moved(1), 0);
        due("v -1", x.line(0, -1), Check.BEYOND);
        due("v 1000", x.line(0, 1000), Check.BEYOND);
        due("line of no HOUSE", x.line(4, 0), Check.BEYOND);
        due("show of no HOUSE", x.show(4), Check.BEYOND);
        due("moved of no HOUSE", x.moved(-1), Check.BEYOND);
        due("MOVED stays", x.moved(0), 2);
        due("LINE stays", x.show(0), 0);
    }
}
