/** Terms, section 5, and promises 35 to 38: the sheets. */
final class SheetEdges {
    private static final int MIN = Edge.MIN;
    private static final int MAX = Edge.MAX;
    private static final int[] NO_SHEETS = {MIN, -1, 4, MAX};

    private SheetEdges() {
    }

    static void all() {
        sheetsTerm();
        sheet();
        sheetRefused();
        write();
        writeRefused();
        copy();
        copyRefused();
        weeks();
        weeksAtTheEnd();
        weeksRefused();
    }

    /** What a number of a sheet is; it is put back. */
    private static long number(WarmGlass x, int s, int i) {
        long v = x.write(s, i, 0);
        x.write(s, i, v);
        return v;
    }

    private static void sheetsTerm() {
        Edge.sentence(0, "SHEETS 0 to 3 are rows of at most 40 numbers of 8, 16 or 64 bits, or MISSING (at first).");
        for (int s = 0; s <= 3; s++) {
            int own = s;
            Edge.refused("sheet " + s + " at first", Scenes.EMPTY, Check.MISSING, x -> x.write(own, 0, 1));
            for (int bits : new int[] {8, 16, 64}) {
                int ownBits = bits;
                Edge.answers("sheet " + s + " of " + bits, Scenes.EMPTY, x -> x.sheet(own, ownBits, 40), 40);
                Edge.refused("41 of " + bits, Scenes.EMPTY, Check.BEYOND, x -> x.sheet(own, ownBits, 41));
            }
        }
        WarmGlass y = new WarmGlass();
        for (int s = 0; s <= 3; s++) {
            y.sheet(s, 64, 40);
            for (int i = 0; i < 40; i++) {
                y.write(s, i, 100 * s + i);
            }
        }
        for (int s = 0; s <= 3; s++) {
            for (int i = 0; i < 40; i++) {
                Edge.due("number " + i + " of " + s, number(y, s, i), 100 * s + i);
            }
        }
    }

    private static void sheet() {
        Edge.sentence(35, "A sheet has n numbers, all 0, of 8, 16 or 64 bits; bits 0: it is MISSING: n (0 if it is MISSING).");
        for (int bits : new int[] {8, 16, 64}) {
            for (int n : new int[] {0, 1, 39, 40}) {
                WarmGlass x = Scenes.RICH.make();
                Edge.due(n + " of " + bits, x.sheet(2, bits, n), n);
                for (int i = 0; i < n; i++) {
                    Edge.due("number " + i + " is 0", x.write(2, i, -1), 0);
                }
                Edge.due("no number " + n, x.write(2, n, 0), Check.BEYOND);
                Edge.due("again", x.sheet(2, bits, n), n);
                for (int i = 0; i < n; i++) {
                    Edge.due("number " + i + " is 0 again", x.write(2, i, 0), 0);
                }
            }
        }
        for (int n : new int[] {0, 1, 40}) {
            WarmGlass x = Scenes.RICH.make();
            Edge.due("bits 0, n " + n, x.sheet(2, 0, n), 0);
            Edge.due("it is MISSING", x.write(2, 0, 0), Check.MISSING);
            Edge.due("the others aren't", x.write(1, 0, 0), -2000);
            Edge.due("one that is MISSING", x.sheet(3, 0, n), 0);
        }
        WarmGlass y = Scenes.RICH.make();
        y.sheet(2, 64, 2);
        y.sheet(2, 64, 40);
        Edge.due("what was behind a shorter one is 0", number(y, 2, 8), 0);
    }

    private static void sheetRefused() {
        Edge.sentence(35, "BEYOND: no such sheet, other bits.");
        Edge.refusedEach("s", Scenes.RICH, Check.BEYOND, (x, s) -> x.sheet(s, 8, 1), NO_SHEETS);
        Edge.refusedEach("bits", Scenes.RICH, Check.BEYOND, (x, bits) -> x.sheet(0, bits, 1), MIN, -64, -8, -1, 1, 7, 9, 15,
            17, 32, 63, 65, 128, MAX);
        Edge.refusedEach("s, ahead of SIZE", Scenes.RICH, Check.BEYOND, (x, s) -> x.sheet(s, 8, -1), NO_SHEETS);
        Edge.refusedEach("bits, ahead of SIZE", Scenes.RICH, Check.BEYOND, (x, bits) -> x.sheet(0, bits, -1), -1, 1, 32);
        Edge.sentence(35, "SIZE: n is below 0 (also with bits 0).");
        for (int bits : new int[] {0, 8, 16, 64}) {
            Edge.refusedEach("n, bits " + bits, Scenes.RICH, Check.SIZE, (x, n) -> x.sheet(0, bits, n), MIN, -1);
        }
        Edge.refused("of one that is MISSING", Scenes.RICH, Check.SIZE, x -> x.sheet(3, 0, -1));
        Edge.sentence(35, "BEYOND: n is above 40 (also with bits 0).");
        for (int bits : new int[] {0, 8, 16, 64}) {
            Edge.refusedEach("n, bits " + bits, Scenes.RICH, Check.BEYOND, (x, n) -> x.sheet(0, bits, n), 41, MAX);
        }
    }

    private static void write() {
        Edge.sentence(36, "Number i of a sheet becomes v (its lowest bits): what it was.");
        // What is written, then what is there of 8, of 16 and of 64 bits.
        long[][] rows = {{0, 0, 0, 0}, {127, 127, 127, 127}, {128, -128, 128, 128}, {255, -1, 255, 255}, {256, 0, 256, 256},
            {-128, -128, -128, -128}, {-129, 127, -129, -129}, {32767, -1, 32767, 32767}, {32768, 0, -32768, 32768},
            {65535, -1, -1, 65535}, {65536, 0, 0, 65536}, {-32769, -1, 32767, -32769}, {1L << 32, 0, 0, 1L << 32},
            {Long.MAX_VALUE, -1, -1, Long.MAX_VALUE}, {Long.MIN_VALUE, 0, 0, Long.MIN_VALUE}, {-1, -1, -1, -1}};
        int[] bits = {8, 16, 64};
        for (int b = 0; b < 3; b++) {
            WarmGlass x = new WarmGlass();
            x.sheet(b, bits[b], 40);
            long was = 0;
            for (long[] row : rows) {
                for (int i : new int[] {0, 39}) {
                    Edge.due("what it was, " + bits[b] + " bits", x.write(b, i, row[0]), was);
                }
                was = row[1 + b];
            }
            Edge.due("the last", x.write(b, 39, 0), was);
            Edge.due("others are alone", x.write(b, 38, 0), 0);
        }
        WarmGlass y = new WarmGlass();
        y.sheet(0, 64, 1);
        y.write(0, 0, Check.MISSING);
        Edge.due("one that looks like a finding", y.write(0, 0, 0), Check.MISSING);
        Edge.due("is none", y.status(-1), 0);
    }

    private static void writeRefused() {
        Edge.sentence(36, "BEYOND: no such sheet.");
        Edge.refusedEach("s", Scenes.RICH, Check.BEYOND, (x, s) -> x.write(s, 0, 1), NO_SHEETS);
        Edge.sentence(36, "MISSING.");
        Edge.refusedEach("i", Scenes.RICH, Check.MISSING, (x, i) -> x.write(3, i, 1), MIN, -1, 0, 39, 40, MAX);
        Edge.sentence(36, "BEYOND: no such number.");
        Edge.refusedEach("i of 5", Scenes.RICH, Check.BEYOND, (x, i) -> x.write(0, i, 1), MIN, -1, 5, 39, 40, MAX);
        Edge.refusedEach("i of 40", Scenes.RICH, Check.BEYOND, (x, i) -> x.write(2, i, 1), MIN, -1, 40, MAX);
        Edge.refused("i of none", () -> noNumbers(), Check.BEYOND, x -> x.write(0, 0, 1));
        Edge.answers("the last of 5", Scenes.RICH, x -> x.write(0, 4, 1), 24);
        Edge.answers("the first of 5", Scenes.RICH, x -> x.write(0, 0, 1), -20);
        Edge.answers("the last of 40", Scenes.RICH, x -> x.write(2, 39, 1), 0);
    }

    private static WarmGlass noNumbers() {
        WarmGlass x = Scenes.RICH.make();
        x.sheet(0, 8, 0);
        return x;
    }

    /** Sheets 0 (5 numbers) and 1 (3) of 8 bits: 1, 2, .. in each; 2 of 16 bits (5); 3 is MISSING. */
    private static WarmGlass rows() {
        WarmGlass x = Scenes.jacket();
        x.sheet(0, 8, 5);
        x.sheet(1, 8, 3);
        x.sheet(2, 16, 5);
        for (int i = 0; i < 5; i++) {
            x.write(0, i, i + 1);
            if (i < 3) {
                x.write(1, i, -i - 1);
            }
        }
        return x;
    }

    private static void copied(int s, int from, int t, int to, int n, int... want) {
        WarmGlass x = rows();
        String what = "copy(" + s + ", " + from + ", " + t + ", " + to + ", " + n + ")";
        Edge.due(what, x.copy(s, from, t, to, n), n);
        for (int i = 0; i < want.length; i++) {
            Edge.due(what + ", number " + i, number(x, t, i), want[i]);
        }
        for (int i = 0; s != t && i < (s == 0 ? 5 : 3); i++) {
            Edge.due(what + ", it leaves number " + i, number(x, s, i), s == 0 ? i + 1 : -i - 1);
        }
    }

    private static void copy() {
        Edge.sentence(37, "n numbers of a sheet from one on come to another one from one on (as they all were): n.");
        copied(0, 0, 1, 0, 3, 1, 2, 3);
        copied(0, 2, 1, 0, 3, 3, 4, 5);
        copied(0, 4, 1, 2, 1, -1, -2, 5);
        copied(1, 0, 0, 2, 3, 1, 2, -1, -2, -3);
        copied(1, 1, 0, 0, 2, -2, -3, 3, 4, 5);
        copied(0, 0, 0, 1, 4, 1, 1, 2, 3, 4);
        copied(0, 1, 0, 0, 4, 2, 3, 4, 5, 5);
        copied(0, 0, 0, 0, 5, 1, 2, 3, 4, 5);
        copied(0, 0, 0, 4, 1, 1, 2, 3, 4, 1);
        copied(0, 0, 1, 0, 0, -1, -2, -3);
        copied(0, 5, 1, 3, 0, -1, -2, -3);
        WarmGlass x = new WarmGlass();
        x.sheet(0, 64, 40);
        x.sheet(3, 64, 40);
        x.write(0, 0, Long.MIN_VALUE);
        x.write(0, 39, Long.MAX_VALUE);
        Edge.due("all 40", x.copy(0, 0, 3, 0, 40), 40);
        Edge.due("the first", x.write(3, 0, 0), Long.MIN_VALUE);
        Edge.due("the last", x.write(3, 39, 0), Long.MAX_VALUE);
    }

    private static void copyRefused() {
        Edge.sentence(37, "BEYOND: no such sheet (either).");
        Edge.refusedEach("s", SheetEdges::rows, Check.BEYOND, (x, s) -> x.copy(s, 0, 1, 0, 1), NO_SHEETS);
        Edge.refusedEach("t", SheetEdges::rows, Check.BEYOND, (x, t) -> x.copy(0, 0, t, 0, 1), NO_SHEETS);
        Edge.refusedEach("t, ahead of MISSING", SheetEdges::rows, Check.BEYOND, (x, t) -> x.copy(3, 0, t, 0, 1), -1, 4);
        Edge.refusedEach("s, ahead of MISSING", SheetEdges::rows, Check.BEYOND, (x, s) -> x.copy(s, 0, 3, 0, 1), -1, 4);
        Edge.sentence(37, "MISSING: one is.");
        Edge.refused("the first", SheetEdges::rows, Check.MISSING, x -> x.copy(3, 0, 0, 0, 0));
        Edge.refused("the other", SheetEdges::rows, Check.MISSING, x -> x.copy(0, 0, 3, 0, 0));
        Edge.refused("both", SheetEdges::rows, Check.MISSING, x -> x.copy(3, 0, 3, 0, 0));
        Edge.refused("ahead of how many", SheetEdges::rows, Check.MISSING, x -> x.copy(0, -1, 3, 99, -1));
        Edge.sentence(37, "KIND: they are not of as many bits.");
        Edge.refused("8 to 16", SheetEdges::rows, Check.KIND, x -> x.copy(0, 0, 2, 0, 1));
        Edge.refused("16 to 8", SheetEdges::rows, Check.KIND, x -> x.copy(2, 0, 0, 0, 1));
        Edge.refused("of none", SheetEdges::rows, Check.KIND, x -> x.copy(2, 0, 0, 0, 0));
        Edge.refused("64 to 16", Scenes.RICH, Check.KIND, x -> x.copy(2, 0, 1, 0, 1));
        Edge.refused("ahead of how many", SheetEdges::rows, Check.KIND, x -> x.copy(0, -1, 2, 6, 99));
        Edge.sentence(37, "BEYOND: one has not so many, or from, to or n is below 0.");
        Edge.refused("the first has not so many", SheetEdges::rows, Check.BEYOND, x -> x.copy(1, 0, 0, 0, 4));
        Edge.refused("the first has not so many from there", SheetEdges::rows, Check.BEYOND, x -> x.copy(0, 3, 1, 0, 3));
        Edge.refused("the other has not so many", SheetEdges::rows, Check.BEYOND, x -> x.copy(0, 0, 1, 0, 4));
        Edge.refused("the other has not so many from there", SheetEdges::rows, Check.BEYOND, x -> x.copy(0, 0, 1, 2, 2));
        Edge.refused("from behind the end", SheetEdges::rows, Check.BEYOND, x -> x.copy(0, 5, 1, 0, 1));
        Edge.refused("to behind the end", SheetEdges::rows, Check.BEYOND, x -> x.copy(0, 0, 1, 3, 1));
        Edge.refusedEach("from", SheetEdges::rows, Check.BEYOND, (x, from) -> x.copy(0, from, 1, 0, 1), MIN, -1, MAX);
        Edge.refusedEach("to", SheetEdges::rows, Check.BEYOND, (x, to) -> x.copy(0, 0, 1, to, 1), MIN, -1, MAX);
        Edge.refusedEach("n", SheetEdges::rows, Check.BEYOND, (x, n) -> x.copy(0, 1, 1, 1, n), MIN, -1, MAX);
        Edge.refused("from and n that go round", SheetEdges::rows, Check.BEYOND, x -> x.copy(0, MAX, 1, 0, MAX));
        Edge.refused("from below 0 of none", SheetEdges::rows, Check.BEYOND, x -> x.copy(0, -1, 1, 0, 0));
        Edge.refused("to below 0 of none", SheetEdges::rows, Check.BEYOND, x -> x.copy(0, 0, 1, -1, 0));
    }

    private static WarmGlass weekly(int bits, long... numbers) {
        WarmGlass x = new WarmGlass();
        x.cell(0, 99010077, 0, 9999);
        x.cell(0, 99010003, 0, 9999);
        x.house(1001, 99999);
        x.sheet(0, bits, numbers.length);
        for (int i = 0; i < numbers.length; i++) {
            x.write(0, i, numbers[i]);
        }
        return x;
    }

    /** How many HOURS went, what POWER is then, what was PUT. */
    private static void went(int bits, int hours, int power, int put, long... numbers) {
        WarmGlass x = weekly(bits, numbers);
        Edge.due("HOURS", x.weeks(0, 0), hours);
        Edge.due("NOW", x.count(0), hours);
        Edge.due("POWER", x.of(0, 1), power);
        Edge.due("PUT", x.ever(0, 0), put);
        Edge.due("POWER of the other", x.of(1, 1), 3);
        Edge.due("PUT of the other", x.ever(1, 0), 3 * hours);
        Edge.due("HOURS of the HOUSE", x.houseOf(0, 5), hours);
        Edge.due("no finding", x.status(-1), 0);
        for (int i = 0; i < numbers.length; i++) {
            long was = bits == 8 ? (byte) numbers[i] : bits == 16 ? (short) numbers[i] : numbers[i];
            Edge.due("number " + i + " stays", number(x, 0, i), was);
        }
    }

    private static void weeks() {
        Edge.sentence(38, "Numbers of a sheet, one by one, become POWER of a CELL, and an HOUR goes each time (those that aren't 0"
            + " to 9999 are left out; at NOW 2000 no more come, which is no finding): how many HOURS went.");
        went(64, 0, 77, 0);
        went(64, 1, 0, 0, 0);
        went(64, 1, 9999, 9999, 9999);
        went(64, 0, 77, 0, -1);
        went(64, 0, 77, 0, 10000);
        went(64, 3, 5, 7 + 6 + 5, 7, 6, 5);
        went(64, 2, 0, 9999, 9999, -1, 10000, 0);
        went(64, 2, 9, 17, -1, 8, 10000, 9, -1);
        went(64, 1, 6, 6, 1L << 32, (1L << 32) + 5, Long.MIN_VALUE, Long.MAX_VALUE, 6);
        went(16, 3, 0, 9999 + 9998, 9999, 10000, 9998, -9999, 65536);
        went(8, 2, 127, 254, 127, 128, 255, 383);
    }

    private static WarmGlass lateWeek(int now, long... numbers) {
        WarmGlass x = weekly(64, numbers);
        for (int i = 0; i < 19; i++) {
            x.hours(100);
        }
        x.hours(now - 1900);
        return x;
    }

    private static void weeksAtTheEnd() {
        Edge.answers("from 1999", () -> lateWeek(1999, 5, 6), x -> x.weeks(0, 0), 1);
        Edge.answers("from 1998", () -> lateWeek(1998, 5, 6), x -> x.weeks(0, 0), 2);
        Edge.answersAlone("from 2000", () -> lateWeek(2000, 5, 6), x -> x.weeks(0, 0), 0);
        WarmGlass y = lateWeek(1999, -1, 6, 7);
        Edge.due("one that is left out takes no HOUR", y.weeks(0, 0), 1);
        Edge.due("POWER of the last that came", y.of(0, 1), 6);
        Edge.due("NOW", y.count(0), 2000);
        Edge.due("no more", y.weeks(0, 0), 0);
        Edge.due("POWER stays", y.of(0, 1), 6);
        Edge.due("no finding", y.status(-1), 0);
        WarmGlass z = weekly(64, new long[40]);
        Edge.due("all 40", z.weeks(0, 1), 40);
        Edge.due("of the other CELL", z.of(1, 1), 0);
        Edge.due("not of the first", z.of(0, 1), 77);
    }

    private static void weeksRefused() {
        Edge.sentence(38, "BEYOND: no such sheet.");
        Edge.refusedEach("s", Scenes.RICH, Check.BEYOND, (x, s) -> x.weeks(s, 0), NO_SHEETS);
        Edge.sentence(38, "MISSING.");
        Edge.refused("it is MISSING", Scenes.RICH, Check.MISSING, x -> x.weeks(3, 0));
        Edge.refusedEach("cell, behind MISSING", Scenes.RICH, Check.MISSING, (x, c) -> x.weeks(3, c), -1, 6);
        Edge.sentence(38, "BEYOND: no such CELL.");
        Edge.refusedEach("cell", Scenes.RICH, Check.BEYOND, (x, c) -> x.weeks(0, c), CellEdges.NO_CELLS);
        Edge.refusedEach("cell of no numbers", () -> noNumbers(), Check.BEYOND, (x, c) -> x.weeks(0, c), -1, 6);
        Edge.refusedEach("cell at NOW 2000", Scenes.FULL, Check.BEYOND, (x, c) -> x.weeks(0, c), -1, 8);
    }
}
