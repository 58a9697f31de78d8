/** Promises 39 to 43: the images. */
public final class ImagesTest {
    public static void main(String[] args) {
        imagesOfAll();
        whatIsNotKept();
        newOnesBehindAnImage();
        tears();
        counts();
        statusOfFindings();
        Check.end();
    }

    private static void due(String what, long got, long want) {
        Check.due(what, got, want);
    }

    private static WarmGlass one() {
        WarmGlass x = new WarmGlass();
        x.cell(3, 10021000, 25, 9999);
        x.house(99100, 500);
        Check.law(x, "p", 50);
        Check.told(x, "t", 0);
        Check.told(x, "h", 1);
        x.force(0);
        x.hours(3);
        x.line(0, 4);
        x.show(0);
        return x;
    }

    /** All that can be asked of one CELL, LAW and HOUSE. */
    private static String all(WarmGlass x) {
        StringBuilder s = new StringBuilder();
        for (int what = 0; what <= 9; what++) {
            s.append(x.of(0, what)).append(' ').append(x.houseOf(0, what)).append(' ');
        }
        for (int what = 0; what <= 4; what++) {
            s.append(x.latest(0, what)).append(' ');
        }
        for (int what = 0; what <= 3; what++) {
            s.append(x.ever(0, what)).append(' ');
        }
        for (int what = 0; what <= 6; what++) {
            s.append(what == 5 ? 0 : x.count(what)).append(' ');
        }
        s.append(x.says(0, 0)).append(' ').append(x.says(1, 0)).append(' ');
        s.append(x.tells(0, 0)).append(' ').append(x.must(0, 0)).append(' ');
        s.append(x.since(0, 0)).append(' ').append(x.since(0, 1)).append(' ');
        s.append(x.moved(0)).append(' ').append(x.order(0)).append(' ').append(x.saying(1));
        return s.toString();
    }

    private static void same(String what, String got, String want) {
        due(what + ": " + got + " for " + want, got.equals(want) ? 1 : 0, 1);
    }

    private static void imagesOfAll() {
        WarmGlass x = one();
        due("image", x.image(), 1);
        String then = all(x);
        x.power(0, 9999);
        x.top(0, 3);
        x.force(-1);
        Check.law(x, "9", 9);
        Check.told(x, "77", 0);
        Check.told(x, "88", 1);
        x.cell(0, 1010000, 0, 0);
        x.house(1000, 1);
        x.line(0, 9);
        x.hours(50);
        due("NOW as it was", x.undo(), 3);
        same("all as it was", all(x), then);
        due("no more CELLS", x.of(1, 0), Check.BEYOND);
        due("no more LAWS", x.tells(1, 0), Check.BEYOND);
        due("no more HOUSES", x.houseOf(1, 0), Check.BEYOND);
        due("LINE as it was", x.show(0), 4);
        x.hours(1);
        due("it stays kept", x.undo(), 3);
        same("all as it was again", all(x), then);
        x.hours(2);
        due("another image", x.image(), 1);
        String later = all(x);
        x.hours(2);
        due("the latest", x.undo(), 5);
        same("as it was then", all(x), later);
    }

    private static void whatIsNotKept() {
        WarmGlass x = one();
        Check.feed(x, "ab");
        x.sheet(0, 8, 2);
        x.write(0, 0, 5);
        x.image();
        Check.feed(x, "c");
        x.write(0, 0, 6);
        x.hours(0);
        due("undo", x.undo(), 3);
        due("THE TAPE isn't kept", x.count(5), 3);
        due("nor are sheets", x.write(0, 0, 7), 6);
        due("nor is status", x.status(-1), 1);
    }

    private static void newOnesBehindAnImage() {
        WarmGlass x = new WarmGlass();
        x.image();
        x.cell(3, 10021000, 25, 9999);
        x.house(9000, 1);
        Check.law(x, "5", 0);
        x.force(0);
        x.hours(10);
        x.line(0, 3);
        x.show(0);
        x.line(0, 4);
        due("undo", x.undo(), 0);
        due("no CELLS", x.count(1), 0);
        due("no LAWS", x.count(2), 0);
        due("no HOUSES", x.count(3), 0);
        due("no LAW", x.count(4), -1);
        due("a new CELL", x.cell(3, 10020100, 25, 9999), 0);
        due("its HEAT", x.of(0, 6), 0);
        due("its STORE", x.of(0, 7), 0);
        for (int what = 0; what <= 4; what++) {
            due("latest(0, " + what + ")", x.latest(0, what), 0);
        }
        for (int what = 0; what <= 3; what++) {
            due("ever(0, " + what + ")", x.ever(0, what), 0);
        }
        due("a new HOUSE", x.house(1000, 7), 0);
        for (int what = 5; what <= 9; what++) {
            due("houseOf(0, " + what + ")", x.houseOf(0, what), 0);
        }
        due("its LINE", x.line(0, 1), 0);
        due("it wasn't SHOWN", x.moved(0), 0);
        due("a new LAW", Check.law(x, "6", 0), 0);
        due("what it tells", x.tells(0, 0), 6);
    }

    private static void tears() {
        WarmGlass x = one();
        due("nothing yet", x.tear(), 0);
        due("nothing yet", x.undo(), Check.NONE);
        x.image();
        due("something", x.tear(), 1);
        due("nothing then", x.tear(), 0);
        due("nothing then", x.undo(), Check.NONE);
        due("NOW stays", x.count(0), 3);
        x.image();
        due("kept again", x.undo(), 3);
    }

    private static void counts() {
        WarmGlass x = one();
        x.cell(0, 10021000, 25, 9999);
        x.cell(0, 10021000, 25, 9999);
        x.hours(1);
        Check.feed(x, "abcd");
        due("NOW", x.count(0), 4);
        due("CELLS", x.count(1), 3);
        due("LAWS", x.count(2), 1);
        due("HOUSES", x.count(3), 1);
        due("THE LAW", x.count(4), 0);
        due("bytes", x.count(5), 4);
        due("HEAT of all", x.count(6), x.of(0, 6) + x.of(1, 6) + x.of(2, 6));
        due("what -1", x.count(-1), Check.BEYOND);
        due("what 7", x.count(7), Check.BEYOND);
    }

    private static void statusOfFindings() {
        WarmGlass x = new WarmGlass();
        due("status 7", x.status(7), Check.BEYOND);
        due("counted from then on", x.status(-1), 1);
        due("status -2", x.status(-2), Check.BEYOND);
        due("BEYOND", x.status(0), 2);
        x.cell(0, 1010000, 0, 0);
        for (int i = 0; i < 6; i++) {
            Check.law(x, "1", 0);
        }
        x.law(1);
        due("FULL", x.status(1), 1);
        x.as(0, 1);
        x.as(0, 2);
        due("KIND", x.status(2), 2);
        x.order(0);
        x.image();
        due("NONE", x.status(3), 1);
        for (int i = 0; i < 20; i++) {
            x.hours(100);
        }
        x.hours(1);
        due("STATE", x.status(4), 1);
        x.weeks(0, 0);
        x.write(0, 0, 0);
        due("MISSING", x.status(5), 2);
        x.sheet(0, 0, -1);
        due("SIZE", x.status(6), 1);
        due("all", x.status(-1), 10);
        x.houseOf(9, 9);
        x.undo();
        due("undo takes none back", x.status(-1), 11);
        Check.feed(x, "?");
        x.told(0);
        due("a FAULT is none", x.status(-1), 11);
    }
}
