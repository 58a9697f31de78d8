/** Promises 35 to 38: the sheets. */
public final class SheetsTest {
    public static void main(String[] args) {
        sheets();
        writes();
        copies();
        weeks();
        weeksAtTheEnd();
        Check.end();
    }

    private static void due(String what, long got, long want) {
        Check.due(what, got, want);
    }

    private static void sheets() {
        WarmGlass x = new WarmGlass();
        due("8 bits", x.sheet(0, 8, 40), 40);
        due("16 bits", x.sheet(1, 16, 1), 1);
        due("64 bits", x.sheet(2, 64, 0), 0);
        due("bits 0", x.sheet(3, 0, 7), 0);
        due("it is MISSING", x.write(3, 0, 0), Check.MISSING);
        due("one of no numbers isn't MISSING", x.write(2, 0, 0), Check.BEYOND);
        due("sheet -1", x.sheet(-1, 8, 1), Check.BEYOND);
        due("sheet 4", x.sheet(4, 8, 1), Check.BEYOND);
        due("bits 32", x.sheet(0, 32, 1), Check.BEYOND);
        due("bits -8", x.sheet(0, -8, -1), Check.BEYOND);
        due("n -1", x.sheet(0, 8, -1), Check.SIZE);
        due("n -1 with bits 0", x.sheet(0, 0, -1), Check.SIZE);
        due("n 41", x.sheet(0, 8, 41), Check.BEYOND);
        due("n 41 with bits 0", x.sheet(0, 0, 41), Check.BEYOND);
        due("BEYOND is asked ahead of SIZE", x.sheet(4, 8, -1), Check.BEYOND);
        due("it stays", x.write(0, 39, 5), 0);
        due("again", x.sheet(0, 8, 40), 40);
        due("all 0", x.write(0, 39, 5), 0);
        due("bits 0", x.sheet(0, 0, 0), 0);
        due("it is MISSING", x.write(0, 0, 0), Check.MISSING);
    }

    private static void writes() {
        WarmGlass x = new WarmGlass();
        x.sheet(0, 8, 3);
        x.sheet(1, 16, 3);
        x.sheet(2, 64, 3);
        due("at first", x.write(0, 2, 127), 0);
        due("what it was", x.write(0, 2, 128), 127);
        due("lowest 8 bits, with their sign", x.write(0, 2, 256 + 7), -128);
        due("lowest 8 bits", x.write(0, 2, -1), 7);
        due("-1", x.write(0, 2, 0), -1);
        due("at first", x.write(1, 0, 32767), 0);
        due("16 bits", x.write(1, 0, 32768), 32767);
        due("lowest 16 bits, with their sign", x.write(1, 0, 65536 + 9), -32768);
        due("lowest 16 bits", x.write(1, 0, 0), 9);
        due("at first", x.write(2, 1, Long.MIN_VALUE), 0);
        due("64 bits", x.write(2, 1, Long.MAX_VALUE), Long.MIN_VALUE);
        due("64 bits again", x.write(2, 1, Check.BEYOND), Long.MAX_VALUE);
        due("a number that looks like a finding", x.write(2, 1, 0), Check.BEYOND);
        due("is none", x.status(-1), 0);
        due("number 3", x.write(0, 3, 1), Check.BEYOND);
        due("number -1", x.write(0, -1, 1), Check.BEYOND);
        due("sheet -1", x.write(-1, 0, 1), Check.BEYOND);
        due("sheet 4", x.write(4, 0, 1), Check.BEYOND);
        due("MISSING is asked ahead of the number", x.write(3, 9, 1), Check.MISSING);
        due("others are alone", x.write(0, 0, 1), 0);
    }

    private static void fill(WarmGlass x, int s, int n) {
        for (int i = 0; i < n; i++) {
            x.write(s, i, i + 1);
        }
    }

    private static void row(WarmGlass x, String what, int s, int... want) {
        for (int i = 0; i < want.length; i++) {
            long was = x.write(s, i, 0);
            x.write(s, i, was);
            due(what + ": number " + i, was, want[i]);
        }
    }

    private static void copies() {
        WarmGlass x = new WarmGlass();
        x.sheet(0, 8, 5);
        x.sheet(1, 8, 3);
        x.sheet(2, 16, 5);
        fill(x, 0, 5);
        due("to another", x.copy(0, 1, 1, 0, 3), 3);
        row(x, "to another", 1, 2, 3, 4);
        due("onwards in itself", x.copy(0, 0, 0, 1, 4), 4);
        row(x, "onwards", 0, 1, 1, 2, 3, 4);
        due("back in itself", x.copy(0, 2, 0, 0, 3), 3);
        row(x, "back", 0, 2, 3, 4, 3, 4);
        due("none", x.copy(0, 5, 1, 3, 0), 0);
        due("none from behind the end", x.copy(0, 6, 1, 0, 0), Check.BEYOND);
        due("none to behind the end", x.copy(0, 0, 1, 4, 0), Check.BEYOND);
        due("from has not so many", x.copy(0, 3, 1, 0, 3), Check.BEYOND);
        due("to has not so many", x.copy(0, 0, 1, 1, 3), Check.BEYOND);
        due("from -1", x.copy(0, -1, 1, 0, 1), Check.BEYOND);
        due("to -1", x.copy(0, 0, 1, -1, 1), Check.BEYOND);
        due("n -1", x.copy(0, 1, 1, 1, -1), Check.BEYOND);
        due("greatest", x.copy(0, Integer.MAX_VALUE, 1, 0, Integer.MAX_VALUE), Check.BEYOND);
        due("sheet -1", x.copy(-1, 0, 3, 0, 1), Check.BEYOND);
        due("sheet 4", x.copy(0, 0, 4, 0, 1), Check.BEYOND);
        due("BEYOND is asked ahead of MISSING", x.copy(3, 0, 4, 0, 1), Check.BEYOND);
        due("the first is MISSING", x.copy(3, 0, 0, 0, 1), Check.MISSING);
        due("the other is MISSING", x.copy(2, 0, 3, 9, 1), Check.MISSING);
        due("KIND is asked ahead of how many", x.copy(0, 9, 2, 9, 9), Check.KIND);
        row(x, "it stays", 1, 2, 3, 4);
    }

    private static void weeks() {
        WarmGlass x = new WarmGlass();
        x.cell(0, 99010005, 0, 9999);
        x.cell(0, 99010003, 0, 9999);
        x.house(1000, 99999);
        x.sheet(0, 64, 6);
        long[] numbers = {9999, -1, 10000, 0, Long.MAX_VALUE, 42};
        for (int i = 0; i < numbers.length; i++) {
            x.write(0, i, numbers[i]);
        }
        due("HOURS", x.weeks(0, 0), 3);
        due("NOW", x.count(0), 3);
        due("POWER", x.of(0, 1), 42);
        due("PUT", x.ever(0, 0), 10041);
        due("PUT of the other", x.ever(1, 0), 9);
        due("HOURS of the HOUSE", x.houseOf(0, 5), 3);
        x.sheet(1, 8, 0);
        due("none", x.weeks(1, 0), 0);
        due("sheet 4", x.weeks(4, 0), Check.BEYOND);
        due("sheet -1", x.weeks(-1, 9), Check.BEYOND);
        due("MISSING is asked ahead of the CELL", x.weeks(2, 9), Check.MISSING);
        due("no CELL", x.weeks(0, 2), Check.BEYOND);
        due("CELL -1", x.weeks(0, -1), Check.BEYOND);
        due("NOW stays", x.count(0), 3);
    }

    private static void weeksAtTheEnd() {
        WarmGlass x = new WarmGlass();
        x.cell(0, 99010005, 0, 9999);
        for (int i = 0; i < 19; i++) {
            x.hours(100);
        }
        x.hours(98);
        x.sheet(0, 8, 4);
        fill(x, 0, 4);
        due("two are left", x.weeks(0, 0), 2);
        due("NOW", x.count(0), 2000);
        due("POWER of the last that came", x.of(0, 1), 2);
        due("none", x.weeks(0, 0), 0);
        due("no finding", x.status(-1), 0);
        due("POWER stays", x.of(0, 1), 2);
    }
}
