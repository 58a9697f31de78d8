/** Promises 1 to 9: a new object, and the cells. */
final class CellEdges {
    private static final int MIN = Edge.MIN;
    private static final int MAX = Edge.MAX;
    /** What is no CELL of Scenes.RICH, which has 0 to 5. */
    static final int[] NO_CELLS = {MIN, -1, 6, 7, 8, MAX};

    private CellEdges() {
    }

    static void all() {
        newObject();
        cell();
        cellRefused();
        power();
        top();
        hours();
        of();
        latest();
        ever();
        as();
    }

    private static void newObject() {
        Edge.sentence(1, "No CELLS, LAWS, HOUSES; THE TAPE is empty, no image is kept.");
        WarmGlass x = new WarmGlass();
        int[] counts = {0, 0, 0, 0, -1, 0, 0};
        for (int what = 0; what <= 6; what++) {
            Edge.due("count(" + what + ")", x.count(what), counts[what]);
        }
        for (int which = -1; which <= 6; which++) {
            Edge.due("status(" + which + ")", x.status(which), 0);
        }
        Edge.due("wipe()", x.wipe(), 0);
        Edge.due("tear()", x.tear(), 0);
        Edge.due("saying(0)", x.saying(0), 0);
        Edge.due("law of no bytes", x.law(0), -1);
        Edge.refused("no CELL", Scenes.EMPTY, Check.BEYOND, y -> y.of(0, 0));
        Edge.refused("no LAW", () -> Scenes.jacket(), Check.BEYOND, y -> y.tells(0, 0));
        Edge.refused("no HOUSE", Scenes.EMPTY, Check.BEYOND, y -> y.houseOf(0, 0));
        Edge.refused("no image", Scenes.EMPTY, Check.NONE, y -> y.undo());
        WarmGlass other = Scenes.RICH.make();
        Edge.due("of one beside another", new WarmGlass().count(1), 0);
        Edge.due("of the other", other.count(1), 6);
    }

    private static void cell() {
        Edge.sentence(2, "A new CELL; of is 1000000 * MASS + 10000 * LOSS + POWER: its number.");
        Edge.answers("the first", Scenes.EMPTY, x -> x.cell(0, 1010000, 0, 0), 0);
        Edge.answers("the seventh", Scenes.RICH, x -> x.cell(0, 1010000, 0, 0), 6);
        int[][] rows = {{0, 1010000, 0, 0}, {5, 99999999, 100, 9999}, {1, 1019999, 1, 1}, {2, 1990000, 99, 9998},
            {3, 99010000, 50, 5000}, {4, 12345678, 7, 77}};
        int[][] massLossPower = {{1, 1, 0}, {99, 99, 9999}, {1, 1, 9999}, {1, 99, 0}, {99, 1, 0}, {12, 34, 5678}};
        WarmGlass y = new WarmGlass();
        for (int i = 0; i < rows.length; i++) {
            Edge.due("cell " + i, y.cell(rows[i][0], rows[i][1], rows[i][2], rows[i][3]), i);
        }
        for (int i = 0; i < rows.length; i++) {
            Edge.due("KIND of " + i, y.of(i, 0), rows[i][0]);
            Edge.due("POWER of " + i, y.of(i, 1), massLossPower[i][2]);
            Edge.due("LOSS of " + i, y.of(i, 2), massLossPower[i][1]);
            Edge.due("MASS of " + i, y.of(i, 3), massLossPower[i][0]);
            Edge.due("GAS of " + i, y.of(i, 4), rows[i][2]);
            Edge.due("WATER of " + i, y.of(i, 5), rows[i][3]);
        }
    }

    private static void cellRefused() {
        Edge.sentence(2, "BEYOND: kind, of (below 0, MASS, LOSS), gas, water.");
        for (Edge.Scene scene : new Edge.Scene[] {Scenes.EMPTY, Scenes.RICH}) {
            Edge.refusedEach("kind", scene, Check.BEYOND, (x, v) -> x.cell(v, 1010000, 0, 0), MIN, -1, 6, MAX);
            Edge.refusedEach("of below 0", scene, Check.BEYOND, (x, v) -> x.cell(0, v, 0, 0), MIN, -1, -1010000);
            Edge.refusedEach("MASS", scene, Check.BEYOND, (x, v) -> x.cell(0, v, 0, 0), 0, 10000, 999999, 100010000, MAX);
            Edge.refusedEach("LOSS", scene, Check.BEYOND, (x, v) -> x.cell(0, v, 0, 0), 1000000, 1009999, 99009999);
            Edge.refusedEach("gas", scene, Check.BEYOND, (x, v) -> x.cell(0, 1010000, v, 0), MIN, -1, 101, MAX);
            Edge.refusedEach("water", scene, Check.BEYOND, (x, v) -> x.cell(0, 1010000, 0, v), MIN, -1, 10000, MAX);
        }
        Edge.refused("kind, ahead of FULL", Scenes.FULL, Check.BEYOND, x -> x.cell(6, 1010000, 0, 0));
        Edge.refused("of, ahead of FULL", Scenes.FULL, Check.BEYOND, x -> x.cell(0, 1000000, 0, 0));
        Edge.refused("gas, ahead of FULL", Scenes.FULL, Check.BEYOND, x -> x.cell(0, 1010000, 101, 0));
        Edge.refused("water, ahead of FULL", Scenes.FULL, Check.BEYOND, x -> x.cell(0, 1010000, 0, 10000));
        Edge.sentence(2, "FULL.");
        Edge.refused("a ninth", Scenes.FULL, Check.FULL, x -> x.cell(0, 1010000, 0, 0));
        WarmGlass y = Scenes.RICH.make();
        Edge.due("the seventh", y.cell(0, 1010000, 0, 0), 6);
        Edge.due("the eighth", y.cell(0, 1010000, 0, 0), 7);
        Edge.due("the ninth", y.cell(0, 1010000, 0, 0), Check.FULL);
        y.undo();
        Edge.due("with room again", y.cell(0, 1010000, 0, 0), 6);
    }

    private static void power() {
        Edge.sentence(3, "POWER of a CELL becomes v: what it was.");
        WarmGlass x = Scenes.RICH.make();
        Edge.due("the least", x.power(5, 0), 1005);
        Edge.due("the most", x.power(5, 9999), 0);
        Edge.due("what it was", x.power(5, 7), 9999);
        Edge.due("what it is", x.of(5, 1), 7);
        Edge.due("of others not", x.of(4, 1), 9999);
        Edge.due("nor of others", x.of(0, 1), 1000);
        Edge.sentence(3, "BEYOND.");
        Edge.refusedEach("cell", Scenes.RICH, Check.BEYOND, (y, c) -> y.power(c, 5), NO_CELLS);
        Edge.refusedEach("v", Scenes.RICH, Check.BEYOND, (y, v) -> y.power(0, v), MIN, -1, 10000, MAX);
        Edge.refused("of no CELLS", Scenes.EMPTY, Check.BEYOND, y -> y.power(0, 5));
    }

    private static void top() {
        Edge.sentence(4, "WATER of a CELL is more by n (1 to 9999; 9999 at most then): WATER.");
        int[][] waterAndMoreThen = {{0, 1, 1}, {0, 9999, 9999}, {1, 9998, 9999}, {1, 9999, 9999}, {9997, 1, 9998},
            {9998, 1, 9999}, {9998, 2, 9999}, {9999, 1, 9999}, {9999, 9999, 9999}};
        for (int[] row : waterAndMoreThen) {
            WarmGlass x = new WarmGlass();
            x.cell(0, 1010000, 0, row[0]);
            x.cell(0, 1010000, 0, 17);
            Edge.due(row[0] + " and " + row[1], x.top(0, row[1]), row[2]);
            Edge.due("WATER then", x.of(0, 5), row[2]);
            Edge.due("of the other", x.of(1, 5), 17);
        }
        Edge.sentence(4, "BEYOND.");
        Edge.refusedEach("cell", Scenes.RICH, Check.BEYOND, (y, c) -> y.top(c, 5), NO_CELLS);
        Edge.refusedEach("n", Scenes.RICH, Check.BEYOND, (y, n) -> y.top(0, n), MIN, -1, 0, 10000, MAX);
    }

    /** An object whose NOW is told; it has a CELL, a LAW in force and a HOUSE. */
    static WarmGlass at(int now) {
        WarmGlass x = Scenes.withLaw("sum(h,1)");
        x.house(3000, 50);
        x.force(0);
        for (int i = 0; i < now / 100; i++) {
            x.hours(100);
        }
        if (now % 100 != 0) {
            x.hours(now % 100);
        }
        return x;
    }

    private static void hours() {
        Edge.sentence(5, "n HOURS (1 to 100) go: NOW.");
        Edge.answers("the least", Scenes.EMPTY, x -> x.hours(1), 1);
        Edge.answers("the most", Scenes.EMPTY, x -> x.hours(100), 100);
        Edge.answers("more", Scenes.RICH, x -> x.hours(99), 105);
        WarmGlass y = at(100);
        Edge.due("as often", y.houseOf(0, 5), 100);
        Edge.due("MADE in each", y.ever(0, 2), 5050);
        Edge.sentence(5, "BEYOND: n.");
        Edge.refusedEach("n", Scenes.RICH, Check.BEYOND, (x, n) -> x.hours(n), MIN, -1, 0, 101, MAX);
        Edge.refusedEach("n, ahead of STATE", Scenes.FULL, Check.BEYOND, (x, n) -> x.hours(n), MIN, -1, 0, 101, MAX);
        Edge.sentence(5, "STATE: NOW would be above 2000.");
        Edge.answers("just 2000", () -> at(1900), x -> x.hours(100), 2000);
        Edge.refused("just 2001", () -> at(1901), Check.STATE, x -> x.hours(100));
        Edge.answers("one to 2000", () -> at(1999), x -> x.hours(1), 2000);
        Edge.refused("two from 1999", () -> at(1999), Check.STATE, x -> x.hours(2));
        Edge.refused("one from 2000", () -> at(2000), Check.STATE, x -> x.hours(1));
        Edge.refused("a hundred from 2000", () -> at(2000), Check.STATE, x -> x.hours(100));
    }

    private static void of() {
        Edge.sentence(6, "Of a CELL: what 0 KIND, 1 POWER, 2 LOSS, 3 MASS, 4 GAS, 5 WATER, 6 HEAT, 7 STORE, 8 WARMTH, 9"
            + " READ.");
        WarmGlass x = new WarmGlass();
        x.cell(0, 1010000, 0, 0);
        x.cell(3, 10021000, 25, 60);
        x.cell(4, 10021000, 25, 60);
        x.hours(1);
        int[][] want = {{0, 0, 1, 1, 0, 0, 0, 0, 0, 0}, {3, 1000, 2, 10, 25, 57, 480, 150, 48, 48},
            {4, 1000, 2, 10, 25, 57, 600, 0, 60, 35}};
        for (int c = 0; c < want.length; c++) {
            for (int what = 0; what <= 9; what++) {
                Edge.due("of(" + c + ", " + what + ")", x.of(c, what), want[c][what]);
            }
        }
        Edge.sentence(6, "BEYOND.");
        Edge.refusedEach("cell", Scenes.RICH, Check.BEYOND, (y, c) -> y.of(c, 0), NO_CELLS);
        Edge.refusedEach("what", Scenes.RICH, Check.BEYOND, (y, what) -> y.of(0, what), MIN, -1, 10, MAX);
    }

    private static void latest() {
        Edge.sentence(7, "Of the latest HOUR of a CELL: what 0 POWER as it counted, 1 GOES, 2 MAKES, 3 LOSES, 4 RAYS.");
        WarmGlass x = new WarmGlass();
        x.cell(2, 10021000, 25, 60);
        x.cell(0, 10021000, 25, 0);
        Check.law(x, "30", 200);
        Check.told(x, "7", 0);
        x.force(0);
        x.hours(1);
        // 875 and 30 of WARMTH 90; of the other 30 of WARMTH 3.
        int[][] want = {{1000, 125, 30, 180, 67}, {0, 0, 30, 6, 67}};
        for (int c = 0; c < want.length; c++) {
            for (int what = 0; what <= 4; what++) {
                Edge.due("latest(" + c + ", " + what + ")", x.latest(c, what), want[c][what]);
            }
        }
        x.power(0, 3);
        x.force(-1);
        Edge.due("as it counted then", x.latest(0, 0), 1000);
        Edge.due("as it was made then", x.latest(0, 2), 30);
        Edge.sentence(7, "BEYOND.");
        Edge.refusedEach("cell", Scenes.RICH, Check.BEYOND, (y, c) -> y.latest(c, 0), NO_CELLS);
        Edge.refusedEach("what", Scenes.RICH, Check.BEYOND, (y, what) -> y.latest(0, what), MIN, -1, 5, MAX);
    }

    private static void ever() {
        Edge.sentence(8, "Ever, of a CELL: what 0 PUT, 1 GONE, 2 MADE, 3 LOST.");
        WarmGlass x = new WarmGlass();
        x.cell(0, 10021000, 25, 60);
        x.cell(0, 10020500, 0, 60);
        for (int what = 0; what <= 3; what++) {
            Edge.due("at first, ever(0, " + what + ")", x.ever(0, what), 0);
        }
        Check.law(x, "30", 0);
        x.force(0);
        x.hours(2);
        // 780 less 156 is 624, 1404 less 280; of the other 530 less 106 is 424, 954 less 190.
        int[][] want = {{2000, 500, 60, 436}, {1000, 0, 60, 296}};
        for (int c = 0; c < want.length; c++) {
            for (int what = 0; what <= 3; what++) {
                Edge.due("ever(" + c + ", " + what + ")", x.ever(c, what), want[c][what]);
            }
        }
        Edge.sentence(8, "BEYOND.");
        Edge.refusedEach("cell", Scenes.RICH, Check.BEYOND, (y, c) -> y.ever(c, 0), NO_CELLS);
        Edge.refusedEach("what", Scenes.RICH, Check.BEYOND, (y, what) -> y.ever(0, what), MIN, -1, 4, MAX);
    }

    private static void as() {
        Edge.sentence(9, "A CELL as one of a kind: its READ.");
        WarmGlass x = Scenes.heated(5, 10, 1, 111);
        for (int kind : new int[] {0, 1, 2, 5}) {
            Edge.due("a COUNTED one as " + kind, x.as(0, kind), 12);
        }
        Edge.due("a JACKET as a CELL", Scenes.heated(4, 10, 1, 33).as(0, 0), 6);
        Edge.due("a STORING one as a CELL", Scenes.heated(3, 10, 1, 111).as(0, 0), 10);
        Edge.sentence(9, "BEYOND: no such CELL, kind.");
        Edge.refusedEach("cell", Scenes.RICH, Check.BEYOND, (y, c) -> y.as(c, 0), NO_CELLS);
        Edge.refusedEach("kind", Scenes.RICH, Check.BEYOND, (y, kind) -> y.as(0, kind), MIN, -1, 6, MAX);
        Edge.sentence(9, "KIND: it isn't of that kind, nor of one under it.");
        String[] under = {"100000", "110000", "111000", "100100", "100010", "111001"};
        for (int kind = 0; kind < 6; kind++) {
            for (int as = 0; as < 6; as++) {
                int asked = as;
                int own = kind;
                if (under[kind].charAt(as) == '0') {
                    Edge.refused("KIND " + kind + " as " + as, Scenes.RICH, Check.KIND, y -> y.as(own, asked));
                } else {
                    int read = Scenes.RICH.make().of(kind, 9);
                    Edge.answers("KIND " + kind + " as " + as, Scenes.RICH, y -> y.as(own, asked), read);
                }
            }
        }
    }
}
