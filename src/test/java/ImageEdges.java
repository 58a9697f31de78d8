/** Promises 39 to 43: the images. */
final class ImageEdges {
    private static final int MIN = Edge.MIN;
    private static final int MAX = Edge.MAX;

    private ImageEdges() {
    }

    static void all() {
        image();
        whatIsNotKept();
        keptWithout();
        newInItsPlace();
        whatIsSaid();
        undo();
        tear();
        count();
        status();
    }

    /** A call behind image(), then undo(): all is as it was without the call. */
    private static void takenBack(String what, Edge.Call call) {
        for (int part = 0; part < Probe.PARTS; part++) {
            if (part == 3) {
                // Sheets and THE TAPE, which aren't kept.
                continue;
            }
            WarmGlass x = Scenes.RICH.make();
            x.image();
            call.on(x);
            x.undo();
            WarmGlass y = Scenes.RICH.make();
            y.image();
            // THE TAPE isn't kept, so its bytes may be others.
            x.wipe();
            y.wipe();
            Edge.due(what + ", part " + part, Probe.of(x, part).equals(Probe.of(y, part)) ? 1 : 0, 1);
        }
    }

    private static void image() {
        Edge.sentence(39, "All that sections 1 to 3 tell (THE TAPE not) is kept: 1.");
        Edge.answers("the first", Scenes.EMPTY, x -> x.image(), 1);
        Edge.answers("another", Scenes.RICH, x -> x.image(), 1);
        Edge.answers("of all that there can be", Scenes.FULL, x -> x.image(), 1);
        takenBack("HOURS, HEAT and BALANCES", x -> x.hours(7));
        takenBack("HOURS by another LAW", x -> x.force(0) + x.hours(3));
        takenBack("a CELL", x -> x.cell(3, 99999999, 100, 9999));
        takenBack("POWER", x -> x.power(0, 0));
        takenBack("WATER", x -> x.top(0, 77));
        takenBack("a LAW", x -> x.law(5));
        takenBack("FLOOR", x -> x.told(0));
        takenBack("CHOICE", x -> x.told(1));
        takenBack("THE LAW", x -> x.force(0));
        takenBack("no LAW", x -> x.force(-1));
        takenBack("a HOUSE", x -> x.house(99115, 1));
        takenBack("LINE of one that was SHOWN", x -> x.line(0, 77));
        takenBack("LINE of one that wasn't", x -> x.line(2, 77));
        takenBack("that it was SHOWN", x -> x.show(2));
        takenBack("weeks", x -> x.weeks(1, 3));
    }

    private static void whatIsNotKept() {
        WarmGlass x = Scenes.RICH.make();
        x.image();
        Edge.due("THE TAPE goes on", x.feed(32, 1), 10);
        x.write(0, 0, 99);
        x.sheet(1, 64, 3);
        x.sheet(2, 0, 0);
        x.sheet(3, 8, 2);
        x.undo();
        Edge.due("THE TAPE isn't kept", x.count(5), 10);
        Edge.due("nor are numbers", x.write(0, 0, 0), 99);
        Edge.due("nor bits", x.write(1, 0, 70000) + x.write(1, 0, 0), 70000);
        Edge.due("nor what is MISSING", x.write(2, 0, 0), Check.MISSING);
        Edge.due("nor what isn't", x.write(3, 1, 0), 0);
        WarmGlass y = Scenes.RICH.make();
        y.image();
        y.wipe();
        y.undo();
        Edge.due("bytes that are gone stay gone", y.count(5), 0);
    }

    private static void keptWithout() {
        WarmGlass x = Scenes.jacket();
        x.house(1010, 99999);
        x.image();
        Check.told(x, "9", 0);
        Check.told(x, "0", 1);
        Check.law(x, "5", 0);
        x.force(0);
        x.undo();
        Edge.due("without FLOOR again", x.says(0, 0), 0);
        Edge.due("without CHOICE again", x.says(1, 0), 1);
        Edge.due("without LAWS again", x.count(2), 0);
        Edge.due("without THE LAW again", x.count(4), -1);
        x.hours(1);
        Edge.due("MAKES", x.latest(0, 2), 0);
        Edge.due("RAYS", x.latest(0, 4), 0);
        Edge.due("HOURS of the HOUSE", x.houseOf(0, 5), 1);
        Edge.due("another LAW 0", Check.law(x, "6", 0), 0);
        Edge.due("what it tells", x.tells(0, 0), 6);
    }

    /** What comes in place of what was taken back is new. */
    private static void newInItsPlace() {
        WarmGlass y = new WarmGlass();
        y.image();
        y.cell(3, 10024000, 25, 9999);
        y.house(99000, 1);
        Check.law(y, "30", 100);
        Check.told(y, "7", 0);
        y.force(0);
        y.hours(3);
        Edge.due("there is STORE", y.of(0, 7), 600);
        Edge.due("there are RAYS", y.latest(0, 4), 37);
        y.line(0, 8);
        y.show(0);
        y.line(0, 9);
        y.undo();
        Edge.due("a new CELL", y.cell(3, 10020000, 0, 0), 0);
        Edge.due("a new HOUSE", y.house(1000, 1), 0);
        for (int what = 6; what <= 9; what++) {
            Edge.due("of(0, " + what + ")", y.of(0, what), 0);
        }
        for (int what = 0; what <= 4; what++) {
            Edge.due("latest(0, " + what + ")", y.latest(0, what), 0);
        }
        for (int what = 0; what <= 3; what++) {
            Edge.due("ever(0, " + what + ")", y.ever(0, what), 0);
        }
        for (int what = 5; what <= 9; what++) {
            Edge.due("houseOf(0, " + what + ")", y.houseOf(0, what), 0);
        }
        Edge.due("LINE", y.line(0, 3), 0);
        Edge.due("it wasn't SHOWN, nor MOVED", y.moved(0), 0);
        Edge.due("nor said MORE", y.since(0, 0), Check.NONE);
    }

    private static void whatIsSaid() {
        WarmGlass x = Scenes.cold();
        x.house(1100, 5);
        x.image();
        Scenes.hourOf(x, 0);
        Edge.due("MORE", x.houseOf(0, 9), 1);
        x.undo();
        Edge.due("nothing again", x.houseOf(0, 9), 0);
        Edge.due("since never", x.since(0, 0), Check.NONE);
        Edge.due("in no ORDER", x.order(0), Check.NONE);
        Scenes.hourOf(x, 5);
        Scenes.hourOf(x, 0);
        Edge.due("MORE since another HOUR", x.since(0, 0), 1);
        x.image();
        Scenes.hourOf(x, 10);
        Edge.due("taken back", x.houseOf(0, 9), 2);
        x.undo();
        Edge.due("MORE again", x.houseOf(0, 9), 1);
        Edge.due("since that HOUR", x.since(0, 0), 1);
        Edge.due("not taken back", x.since(0, 1), Check.NONE);
        Edge.due("with its coins", x.shared(9, 0), 9);
    }

    private static void undo() {
        Edge.sentence(40, "It becomes what was kept latest (which stays): NOW.");
        Edge.answers("NOW of an image", Scenes.RICH, x -> x.undo(), 3);
        WarmGlass x = Scenes.RICH.make();
        Edge.due("CELLS", x.undo() * 0 + x.count(1), 6);
        Edge.due("LAWS", x.count(2), 2);
        Edge.due("HOUSES", x.count(3), 4);
        x.hours(9);
        Edge.due("it stays", x.undo(), 3);
        Edge.due("and stays", x.undo(), 3);
        x.hours(2);
        x.image();
        x.hours(2);
        Edge.due("the latest", x.undo(), 5);
        x.hours(1);
        Edge.due("the latest still", x.undo(), 5);
        WarmGlass y = new WarmGlass();
        y.image();
        y.cell(0, 1010000, 0, 0);
        y.hours(3);
        Edge.due("of nothing at all", y.undo(), 0);
        Edge.due("no CELLS", y.count(1), 0);
        WarmGlass z = Scenes.FULL.make();
        z.image();
        Edge.due("of the last HOUR", z.undo(), 2000);
        Edge.due("no HOUR goes then", z.hours(1), Check.STATE);
        WarmGlass late = CellEdges.at(0);
        late.image();
        for (int i = 0; i < 20; i++) {
            late.hours(100);
        }
        Edge.due("from the last HOUR back", late.undo(), 0);
        Edge.due("HOURS go again", late.hours(100), 100);
        Edge.sentence(40, "NONE: nothing is kept.");
        Edge.refused("of a new object", Scenes.EMPTY, Check.NONE, v -> v.undo());
        Edge.refused("of all that there can be", Scenes.FULL, Check.NONE, v -> v.undo());
        Edge.refused("of what was torn", Scenes::torn, Check.NONE, v -> v.undo());
    }

    private static void tear() {
        Edge.sentence(41, "Nothing is kept: 1 if something was, else 0.");
        Edge.answersAlone("nothing was", Scenes.EMPTY, x -> x.tear(), 0);
        Edge.answers("something was", Scenes.RICH, x -> x.tear(), 1);
        Edge.answersAlone("nothing is any more", Scenes::torn, x -> x.tear(), 0);
        WarmGlass x = Scenes.RICH.make();
        x.image();
        x.image();
        Edge.due("of two", x.tear(), 1);
        Edge.due("none is left", x.tear(), 0);
        Edge.due("nothing to undo", x.undo(), Check.NONE);
        Edge.due("NOW stays", x.count(0), 6);
        x.image();
        x.hours(1);
        Edge.due("kept anew", x.undo(), 6);
        Edge.due("undo leaves it", x.tear(), 1);
    }

    private static void count() {
        Edge.sentence(42, "0 NOW, 1 CELLS, 2 LAWS, 3 HOUSES, 4 THE LAW (-1), 5 bytes of THE TAPE, 6 HEAT of all CELLS.");
        int[] none = {0, 0, 0, 0, -1, 0, 0};
        int[] rich = {6, 6, 3, 5, 1, 9};
        int[] full = {2000, 8, 6, 8, 5, 100};
        for (int what = 0; what <= 6; what++) {
            int own = what;
            Edge.answersAlone("of a new object, count(" + what + ")", Scenes.EMPTY, x -> x.count(own), none[what]);
            if (what < 6) {
                Edge.answersAlone("of some, count(" + what + ")", Scenes.RICH, x -> x.count(own), rich[what]);
                Edge.answersAlone("of all, count(" + what + ")", Scenes.FULL, x -> x.count(own), full[what]);
            }
        }
        WarmGlass y = Scenes.heated(0, 10, 1, 109);
        Edge.due("HEAT of one", y.count(6), 99);
        y.cell(0, 10010000, 0, 0);
        Edge.due("HEAT of one and a new one", y.count(6), 99);
        int heat = 0;
        WarmGlass z = Scenes.FULL.make();
        for (int c = 0; c < 8; c++) {
            heat += z.of(c, 6);
        }
        Edge.due("HEAT of eight", z.count(6), heat);
        Edge.due("there is HEAT", z.of(0, 6) > 0 && z.of(7, 6) > 0 ? 1 : 0, 1);
        Edge.sentence(42, "BEYOND: another what.");
        Edge.refusedEach("what", Scenes.RICH, Check.BEYOND, (x, what) -> x.count(what), MIN, -2, -1, 7, MAX);
    }

    private static void statuses(String what, WarmGlass x, int... want) {
        for (int which = -1; which <= 6; which++) {
            Edge.due(what + ", status(" + which + ")", x.status(which), want[which + 1]);
        }
    }

    private static void status() {
        Edge.sentence(43, "How many acts answered a finding ever (undo() takes none back): which -1: all, 0 to 6: BEYOND to SIZE.");
        WarmGlass x = new WarmGlass();
        statuses("at first", x, 0, 0, 0, 0, 0, 0, 0, 0);
        x.image();
        x.of(0, 0);
        statuses("BEYOND", x, 1, 1, 0, 0, 0, 0, 0, 0);
        x.undo();
        statuses("undo() takes none back", x, 1, 1, 0, 0, 0, 0, 0, 0);
        x.tear();
        x.undo();
        x.order(0);
        statuses("NONE", x, 3, 1, 0, 0, 2, 0, 0, 0);
        x.cell(0, 1010000, 0, 0);
        x.as(0, 1);
        x.as(0, 2);
        x.as(0, 3);
        statuses("KIND", x, 6, 1, 0, 3, 2, 0, 0, 0);
        x.sheet(0, 8, -1);
        x.write(0, 0, 0);
        x.read(0, 9);
        statuses("SIZE and MISSING", x, 9, 1, 0, 3, 2, 0, 2, 1);
        x.houseOf(0, 0);
        x.write(4, 0, 0);
        statuses("of answers that are longs", x, 11, 3, 0, 3, 2, 0, 2, 1);
        for (int i = 0; i < 7; i++) {
            Check.law(x, "1", 0);
        }
        statuses("FULL", x, 12, 3, 1, 3, 2, 0, 2, 1);
        for (int i = 0; i < 20; i++) {
            x.hours(100);
        }
        x.hours(1);
        statuses("STATE", x, 13, 3, 1, 3, 2, 1, 2, 1);
        x.wipe();
        x.feed('?', 1);
        x.told(0);
        x.told(1);
        x.weeks(0, 0);
        statuses("a FAULT is none, one more MISSING", x, 14, 3, 1, 3, 2, 1, 3, 1);
        Edge.sentence(43, "BEYOND (counted from then on): another one.");
        WarmGlass y = new WarmGlass();
        Edge.due("-2", y.status(-2), Check.BEYOND);
        statuses("counted from then on", y, 1, 1, 0, 0, 0, 0, 0, 0);
        Edge.due("7", y.status(7), Check.BEYOND);
        statuses("counted, too", y, 2, 2, 0, 0, 0, 0, 0, 0);
        Edge.refusedEach("which", Scenes.RICH, Check.BEYOND, (z, which) -> z.status(which), MIN, -2, 7, MAX);
        for (int which = -1; which <= 6; which++) {
            int own = which;
            Edge.answersAlone("which " + which, Scenes.RICH, z -> z.status(own), 0);
        }
    }
}
