/** Terms, section 2, and promises 10 to 16: the texts. */
final class TextEdges {
    private static final int MIN = Edge.MIN;
    private static final int MAX = Edge.MAX;

    private TextEdges() {
    }

    static void all() {
        tape();
        tokens();
        justOne();
        expressions();
        names();
        functions();
        openOnes();
        faults();
        ints();
        ofACell();
        laws();
        theLaw();
        floorAndChoice();
        feed();
        wipe();
        law();
        told();
        force();
        tells();
        says();
    }

    /** A TEXT without FAULT tells so much of CELL 0 of Scenes.withLaw. */
    private static void good(String text, long want) {
        WarmGlass x = Scenes.withLaw("1");
        Edge.due("law of \"" + text + "\"", Check.law(x, text, 0), 1);
        Edge.due("\"" + text + "\" tells", x.tells(1, 0), want);
        Edge.due("told of \"" + text + "\"", Check.told(x, text, 0), 0);
        Edge.due("\"" + text + "\" says", x.says(0, 0), want);
    }

    private static void fault(String text, int place) {
        WarmGlass x = Scenes.withLaw("1");
        Edge.due("law of \"" + text + "\"", Check.law(x, text, 0), -1 - place);
        Edge.due("FLOOR of \"" + text + "\"", x.told(0), -1 - place);
        Edge.due("CHOICE of \"" + text + "\"", x.told(1), -1 - place);
        Edge.due("\"" + text + "\" stays", x.wipe(), text.length());
    }

    private static void tape() {
        Edge.sentence(0, "TEXTS are read from THE TAPE (bytes, at most 100).");
        good(" ".repeat(99) + "7", 7);
        good("7" + " ".repeat(99), 7);
        good("0".repeat(96) + "1234", 1234);
        String sums = "sum(sum(sum(sum(1,1),sum(1,1)),sum(sum(1,1),sum(1,1))),sum(sum(sum(1,1),sum(1,1)),sum(1,1)))";
        good(sums + " ".repeat(100 - sums.length()), 14);
        fault(" ".repeat(100), 100);
        fault("x".repeat(100), 0);
        fault("9".repeat(100), 0);
        Edge.refused("a byte more", Scenes.FULL, Check.FULL, x -> x.feed(32, 1));
    }

    private static boolean isIn(int b, String bytes) {
        return bytes.indexOf((char) b) >= 0;
    }

    private static void tokens() {
        Edge.sentence(0, "TOKENS, each as long as can be: WORDS (letters a to z), NUMBERS (digits, 9999 at most), SIGNS ( ) , ;"
            + " blanks may stand between.");
        String digits = "0123456789";
        String letters = "abcdefghijklmnopqrstuvwxyz";
        for (int b = 0; b < 256; b++) {
            String s = String.valueOf((char) b);
            if (isIn(b, digits)) {
                good(s, b - '0');
                good("1" + s, 10 + b - '0');
                fault("p" + s, 1);
                fault("sum" + s, 3);
            } else if (b == ' ') {
                fault(s, 1);
                good("1" + s, 1);
                good("p" + s, 40);
                fault("sum" + s, 4);
            } else {
                if (!isIn(b, "pthcw")) {
                    fault(s, 0);
                }
                fault("1" + s, 1);
                fault("1 " + s, 2);
                fault("p" + s, isIn(b, letters) ? 0 : 1);
                fault("sum" + s, isIn(b, letters) ? 0 : b == '(' ? 4 : 3);
            }
        }
        good("9999", 9999);
        fault("10000", 0);
        good("09999", 9999);
        good("00000000000", 0);
        fault("99 99", 3);
        fault("su m(1,2)", 0);
        good("sum(1,2)", 3);
        good(" sum ( 1 , 2 ) ", 3);
        good("   sum   (   1   ,   2   )   ", 3);
        fault("sump(1,2)", 0);
        fault("1sum(1,2)", 1);
    }

    private static void justOne() {
        Edge.sentence(0, "TEXT: E, just one.");
        fault("", 0);
        fault(" ", 1);
        good("1", 1);
        fault("1 1", 2);
        fault("1,1", 1);
        fault("1)", 1);
        fault("p p", 2);
        fault("sum(1,2)p", 8);
        fault("sum(1,2)sum(1,2)", 8);
        fault("sum(1,2),", 8);
        fault("sum(1,2))", 8);
        fault("if(1,2,3) 4", 10);
    }

    private static void expressions() {
        Edge.sentence(0, "E: NUMBER, NAME, F ( E , E ), or if ( E , E , E ).");
        good("5", 5);
        good("w", 50);
        good("less(w,p)", 10);
        good("if(w,p,9)", 40);
        good("sum(sum(1,2),if(0,1,min(3,4)))", 6);
        good("if(if(0,1,2),sum(1,2),less(1,2))", 3);
        fault("sum()", 4);
        fault("sum(1)", 5);
        fault("sum(,1)", 4);
        fault("sum(1,)", 6);
        fault("sum(1,2,3)", 7);
        fault("sum(1 2)", 6);
        fault("sum(1,2", 7);
        fault("sum 1,2", 4);
        fault("sum,", 3);
        fault("sum)", 3);
        fault("if()", 3);
        fault("if(1)", 4);
        fault("if(1,2)", 6);
        fault("if(1,2,3,4)", 8);
        fault("if(1,2,3", 8);
        fault("if,", 2);
        fault("(1)", 0);
        fault("p(1)", 1);
        fault("1(1)", 1);
        fault("sum(sum,1)", 7);
        fault("sum(if(1,2),1)", 10);
    }

    private static void names() {
        Edge.sentence(0, "NAMES: p t h c w.");
        int[] want = {40, 0, 0, 0, 50};
        for (int i = 0; i < 5; i++) {
            good("pthcw".substring(i, i + 1), want[i]);
        }
        for (char b = 'a'; b <= 'z'; b++) {
            if (!isIn(b, "pthcw")) {
                fault(String.valueOf(b), 0);
            }
        }
        for (String word : new String[] {"pp", "tt", "pt", "wc", "P", "T", "H", "C", "W"}) {
            fault(word, 0);
        }
    }

    private static void functions() {
        Edge.sentence(0, "F: sum less mul part min max.");
        String[] words = {"sum", "less", "mul", "part", "min", "max"};
        int[] of17And5 = {22, 12, 85, 3, 5, 17};
        for (int i = 0; i < words.length; i++) {
            good(words[i] + "(17,5)", of17And5[i]);
            fault(words[i], words[i].length());
            fault(words[i] + "s(17,5)", 0);
            fault(words[i].substring(1) + "(17,5)", 0);
            fault(words[i].substring(0, words[i].length() - 1) + "(17,5)", 0);
            fault(words[i] + "(17,5,1)", words[i].length() + 5);
            fault("x" + words[i] + "(17,5)", 0);
        }
        for (String word : new String[] {"iff(1,2,3)", "i(1,2,3)", "f(1,2,3)", "div(1,2)", "add(1,2)", "mod(1,2)"}) {
            fault(word, 0);
        }
        good("min(less(0,1),1)", -1);
        good("max(less(0,1),1)", 1);
        good("min(5,5)", 5);
        good("max(5,5)", 5);
    }

    private static void openOnes() {
        Edge.sentence(0, "At most 5 of ( are open within one another.");
        good("sum(sum(sum(sum(sum(1,2),3),4),5),6)", 21);
        good("sum(1,sum(2,sum(3,sum(4,sum(5,6)))))", 21);
        good("if(if(if(if(if(1,0,1),2,0),3,4),0,1),9,8)", 8);
        good("if(1,if(1,if(1,if(1,if(1,7,0),0),0),0),0)", 7);
        good("if(0,0,if(0,0,if(0,0,if(0,0,if(0,0,7)))))", 7);
        fault("sum(sum(sum(sum(sum(sum(1,2),3),4),5),6),7)", 23);
        fault("sum(1,sum(1,sum(1,sum(1,sum(1,sum(1,1))))))", 33);
        fault("if(1,if(1,if(1,if(1,if(1,if(1,7,0),0),0),0),0),0)", 27);
        fault("if(0,0,if(0,0,if(0,0,if(0,0,if(0,0,if(0,0,7))))))", 37);
        // More than five in all, but closed ones are open no more.
        good("sum(sum(sum(1,1),sum(1,1)),sum(sum(1,1),sum(1,1)))", 8);
        good("sum(sum(sum(sum(sum(1,1),1),1),1),sum(1,sum(1,sum(1,sum(1,1)))))", 10);
        fault("sum(sum(sum(sum(sum(1,1),1),1),1),sum(1,sum(1,sum(1,sum(1,sum(1,1))))))", 61);
    }

    private static void faults() {
        Edge.sentence(0, "FAULT: the place of the first byte of the first TOKEN that can't stand there (a NUMBER that is too"
            + " great, a WORD that is none of these, a byte that begins no TOKEN, a sixth ( : its own), or how many bytes"
            + " there are if it ends too early.");
        fault("  10000  ", 2);
        fault("sum(1,10000)", 6);
        fault("sum(99999,10000)", 4);
        fault("4294967296", 0);
        fault("4294967297", 0);
        fault("18446744073709551617", 0);
        fault("  xyz", 2);
        fault("sum(abc,def)", 4);
        fault("sum(1,psum(1,2))", 6);
        fault("lessless", 0);
        fault("aaaap", 0);
        fault("sum(1,;)", 6);
        fault("sum(1;2)", 5);
        fault("1\u00e9", 1);
        fault("\u00ff1", 0);
        fault("1\u0000", 1);
        fault("sum (1,sum (1,sum (1,sum (1,sum (1,sum (1,1))))))", 39);
        fault("sum(1,sum(1,sum(1,sum(1,sum(1,sum  (", 35);
        fault("sum(1,sum(1,sum(1,sum(1,sum(1,sum", 33);
        fault("sum(1,sum(1,sum(1,sum(1,sum(1,sum 1", 34);
        fault("sum(x,sum(1,sum(1,sum(1,sum(1,sum(1", 4);
        fault("", 0);
        fault("   ", 3);
        fault("sum", 3);
        fault("sum  ", 5);
        fault("sum(", 4);
        fault("sum( ", 5);
        fault("sum(1", 5);
        fault("sum(1,", 6);
        fault("sum(1,2", 7);
        fault("sum(1,2  ", 9);
        fault("if(1,2,3", 8);
        fault("sum(1,sum(1,2)", 14);
        fault("sum(12345", 4);
    }

    private static void ints() {
        Edge.sentence(0, "Ints that go round; less(a, b) is a less b; part(a, b) is a by b, 0 if b is 0; if(a, b, c) is c if a"
            + " is 0, else b (all are worked).");
        good(Scenes.LEAST_INT, MIN);
        good(Scenes.MOST_INT, MAX);
        good("sum(" + Scenes.MOST_INT + ",1)", MIN);
        good("less(0," + Scenes.LEAST_INT + ")", MIN);
        good("mul(" + Scenes.LEAST_INT + ",less(0,1))", MIN);
        good("mul(mul(9999,9999),100)", 1408065508);
        good("less(3,5)", -2);
        good("less(5,3)", 2);
        good("part(" + Scenes.LEAST_INT + ",less(0,1))", MIN);
        good("part(7,0)", 0);
        good("part(0,0)", 0);
        good("part(less(0,7),0)", 0);
        good("part(0,7)", 0);
        good("part(6,7)", 0);
        good("part(7,7)", 1);
        good("part(13,7)", 1);
        good("part(less(0,13),7)", -1);
        good("if(0,1,2)", 2);
        good("if(1,1,2)", 1);
        good("if(less(0,1),1,2)", 1);
        good("if(" + Scenes.LEAST_INT + ",1,2)", 1);
        good("if(1,2,part(1,0))", 2);
        good("if(0,part(1,0),2)", 2);
        good("if(part(1,0),1,2)", 2);
    }

    private static void ofACell() {
        Edge.sentence(0, "Of a CELL: p its POWER (0 if its WATER is 0), t its WARMTH (CHOICE: READ), h NOW, c the CELL's"
            + " number, w its WATER.");
        WarmGlass x = new WarmGlass();
        int[] waters = {0, 1, 9999, 5, 5, 5, 5, 5};
        for (int i = 0; i < 8; i++) {
            x.cell(i == 7 ? 4 : 0, 99010030 + i, 0, waters[i]);
        }
        for (String name : new String[] {"p", "t", "h", "c", "w"}) {
            Check.law(x, name, 100);
        }
        Edge.due("p without WATER", x.tells(0, 0), 0);
        Edge.due("p with WATER 1", x.tells(0, 1), 31);
        Edge.due("p becomes another", x.power(1, 9999) + x.tells(0, 1), 31 + 9999);
        Edge.due("t at first", x.tells(1, 7), 0);
        Edge.due("h at first", x.tells(2, 0), 0);
        Edge.due("c of the first", x.tells(3, 0), 0);
        Edge.due("c of the last", x.tells(3, 7), 7);
        Edge.due("w of none", x.tells(4, 0), 0);
        Edge.due("w of the most", x.tells(4, 2), 9999);
        Check.told(x, "t", 0);
        Check.told(x, "t", 1);
        for (int i = 0; i < 20; i++) {
            x.hours(100);
        }
        Edge.due("h at last", x.tells(2, 0), 2000);
        int warmth = x.of(7, 8);
        Edge.due("t of a LAW is WARMTH", x.tells(1, 7), warmth);
        Edge.due("t of FLOOR is WARMTH", x.says(0, 7), warmth);
        Edge.due("t of CHOICE is READ", x.says(1, 7), warmth / 2 + 5);
        Edge.due("it is warm", warmth > 10 ? 1 : 0, 1);
    }

    private static void laws() {
        Edge.sentence(0, "LAWS 0, 1, .. (at most 6) are TEXTS, each with a RAY (0 to 999).");
        WarmGlass x = Scenes.jacket();
        int[] rays = {0, 1, 99, 100, 998, 999};
        for (int i = 0; i < 6; i++) {
            Edge.due("LAW " + i, Check.law(x, "100", rays[i]), i);
        }
        for (int i = 0; i < 6; i++) {
            Edge.due("RAY of " + i, x.must(0, i), rays[i]);
        }
        Edge.due("a seventh", Check.law(x, "100", 0), Check.FULL);
        Edge.due("six", x.count(2), 6);
    }

    private static void theLaw() {
        Edge.sentence(0, "THE LAW is one of them, or none (at first).");
        Edge.due("at first", new WarmGlass().count(4), -1);
        WarmGlass x = Scenes.jacket();
        Check.law(x, "5", 0);
        Edge.due("a LAW isn't THE LAW yet", x.count(4), -1);
        x.hours(1);
        Edge.due("nor does it make", x.latest(0, 2), 0);
        x.force(0);
        Edge.due("one of them", x.count(4), 0);
        x.hours(1);
        Edge.due("it makes", x.latest(0, 2), 5);
        x.force(-1);
        Edge.due("none again", x.count(4), -1);
    }

    private static void floorAndChoice() {
        Edge.sentence(0, "FLOOR is a TEXT (without one: 0), CHOICE is a TEXT (without one: 1).");
        WarmGlass x = Scenes.jacket();
        x.house(1010, 99999);
        Edge.due("without FLOOR", x.says(0, 0), 0);
        Edge.due("without CHOICE", x.says(1, 0), 1);
        x.hours(1);
        Edge.due("RAYS without FLOOR", x.latest(0, 4), 0);
        Edge.due("HOURS without CHOICE", x.houseOf(0, 5), 1);
        Check.told(x, "9", 0);
        Edge.due("FLOOR", x.says(0, 0), 9);
        Edge.due("CHOICE is still without", x.says(1, 0), 1);
        Check.told(x, "0", 1);
        Edge.due("CHOICE", x.says(1, 0), 0);
        Edge.due("FLOOR stays", x.says(0, 0), 9);
        x.hours(1);
        Edge.due("RAYS with FLOOR", x.latest(0, 4), 9);
        Edge.due("HOURS with CHOICE", x.houseOf(0, 5), 1);
    }

    private static WarmGlass withBytes(int n) {
        WarmGlass x = Scenes.jacket();
        for (int i = 0; i < n / 4; i++) {
            x.feed(0x20202020, 4);
        }
        for (int i = 0; i < n % 4; i++) {
            x.feed(32, 1);
        }
        return x;
    }

    private static void feed() {
        Edge.sentence(10, "THE TAPE gets the n lowest bytes of a number behind it, the highest of these first (n 1 to 4): how"
            + " many it has.");
        int[] want = {4, 34, 234, 1234};
        for (int n = 1; n <= 4; n++) {
            WarmGlass x = Scenes.jacket();
            Edge.due("n " + n, x.feed(0x31323334, n), n);
            Edge.due("it is a TEXT", x.told(0), 0);
            Edge.due("its bytes", x.says(0, 0), want[n - 1]);
        }
        WarmGlass y = Scenes.jacket();
        Edge.due("of a number below 0", y.feed(0xff313233, 3), 3);
        Edge.due("behind it", y.feed(0x80000039, 1), 4);
        y.told(0);
        Edge.due("their bytes", y.says(0, 0), 1239);
        Edge.due("four of -1", y.feed(-1, 4), 4);
        Edge.due("none of them begins a TOKEN", y.told(0), -1);
        Edge.due("behind these", y.feed(0x3120, 2), 6);
        Edge.sentence(10, "BEYOND: n.");
        Edge.refusedEach("n", Scenes.RICH, Check.BEYOND, (x, n) -> x.feed(0x31323334, n), MIN, -1, 0, 5, MAX);
        Edge.refusedEach("n, ahead of FULL", Scenes.FULL, Check.BEYOND, (x, n) -> x.feed(0x31323334, n), MIN, 0, 5, MAX);
        Edge.sentence(10, "FULL.");
        for (int n = 1; n <= 4; n++) {
            int own = n;
            Edge.answers("up to 100 by " + n, () -> withBytes(100 - own), x -> x.feed(0x31313131, own), 100);
            for (int has = 101 - n; has <= 100; has++) {
                int had = has;
                Edge.refused(n + " behind " + has, () -> withBytes(had), Check.FULL, x -> x.feed(0x31313131, own));
            }
        }
    }

    private static void wipe() {
        Edge.sentence(11, "THE TAPE is empty: how many it had.");
        Edge.answersAlone("none", Scenes.EMPTY, x -> x.wipe(), 0);
        Edge.answers("one", () -> withBytes(1), x -> x.wipe(), 1);
        Edge.answers("all", Scenes.FULL, x -> x.wipe(), 100);
        WarmGlass x = Scenes.FULL.make();
        x.wipe();
        Edge.due("it is empty", x.count(5), 0);
        Edge.due("none again", x.wipe(), 0);
        Edge.due("no bytes are left", x.told(0), -1);
        Edge.due("new bytes", Check.told(x, "7", 0), 0);
        Edge.due("these alone", x.says(0, 0), 7);
    }

    private static WarmGlass withTape(String text, int laws) {
        WarmGlass x = Scenes.jacket();
        for (int i = 0; i < laws; i++) {
            Check.law(x, String.valueOf(i), 10);
        }
        Check.feed(x, text);
        return x;
    }

    private static void law() {
        Edge.sentence(12, "THE TAPE is a new LAW with a RAY: its number; THE TAPE is empty then.");
        WarmGlass x = withTape("200", 0);
        Edge.due("the first, RAY 0", x.law(0), 0);
        Edge.due("THE TAPE is empty", x.count(5), 0);
        Edge.due("the second, RAY 999", Check.law(x, "300", 999), 1);
        Edge.due("THE TAPE is empty again", x.count(5), 0);
        Edge.due("the first tells", x.tells(0, 0), 200);
        Edge.due("by RAY 0", x.must(0, 0), 0);
        Edge.due("the second tells", x.tells(1, 0), 300);
        Edge.due("by RAY 999", x.must(0, 1), 2997);
        Edge.due("THE LAW is none still", x.count(4), -1);
        Edge.sentence(12, "BEYOND: ray.");
        Edge.refusedEach("ray", Scenes.RICH, Check.BEYOND, (y, ray) -> y.law(ray), MIN, -1, 1000, MAX);
        Edge.refusedEach("ray, ahead of FULL", Scenes.FULL, Check.BEYOND, (y, ray) -> y.law(ray), MIN, -1, 1000, MAX);
        Edge.refused("ray, ahead of a FAULT", () -> withTape("?", 1), Check.BEYOND, y -> y.law(1000));
        Edge.sentence(12, "FULL.");
        Edge.answers("the sixth", () -> withTape("7", 5), y -> y.law(0), 5);
        Edge.refused("the seventh", () -> withTape("7", 6), Check.FULL, y -> y.law(0));
        Edge.refused("ahead of a FAULT", () -> withTape("?", 6), Check.FULL, y -> y.law(0));
        Edge.refused("without bytes", () -> withTape("", 6), Check.FULL, y -> y.law(999));
        Edge.sentence(12, "With a FAULT: -1 less the FAULT (THE TAPE stays; no finding).");
        Edge.answersAlone("FAULT 0", () -> withTape("?", 1), y -> y.law(5), -1);
        Edge.answersAlone("FAULT 0 without bytes", () -> withTape("", 5), y -> y.law(5), -1);
        Edge.answersAlone("FAULT 8", () -> withTape("sum(1,2)7", 1), y -> y.law(5), -9);
        Edge.answersAlone("FAULT 100", () -> withTape(" ".repeat(100), 1), y -> y.law(5), -101);
        Edge.answersAlone("FAULT 99", () -> withTape(" ".repeat(99) + "x", 1), y -> y.law(5), -100);
    }

    private static void told() {
        Edge.sentence(13, "THE TAPE is FLOOR (use 0), CHOICE (1): 0; THE TAPE is empty then.");
        for (int use = 0; use <= 1; use++) {
            int own = use;
            Edge.answers("use " + use, () -> withTape("7", 1), x -> x.told(own), 0);
            WarmGlass y = withTape("7", 1);
            y.told(use);
            Edge.due("it is so", y.says(use, 0), 7);
            Edge.due("the other isn't", y.says(1 - use, 0), 1 - use);
            Edge.due("THE TAPE is empty", y.count(5), 0);
            Edge.due("another", Check.told(y, "8", use), 0);
            Edge.due("it is another", y.says(use, 0), 8);
            Edge.due("no LAW", y.count(2), 1);
        }
        Edge.answers("with six LAWS", Scenes.FULL, x -> x.told(1), 0);
        WarmGlass often = withTape("", 0);
        for (int i = 0; i < 80; i++) {
            Edge.due("over and over", Check.told(often, "sum(" + i + ",1)", i % 2), 0);
            Edge.due("each time the new one", often.says(i % 2, 0), i + 1);
        }
        Edge.sentence(13, "BEYOND.");
        Edge.refusedEach("use", Scenes.RICH, Check.BEYOND, (y, use) -> y.told(use), MIN, -1, 2, MAX);
        Edge.refusedEach("use, ahead of a FAULT", () -> withTape("?", 1), Check.BEYOND, (y, use) -> y.told(use), -1, 2);
        Edge.sentence(13, "With a FAULT: -1 less the FAULT (likewise).");
        for (int use = 0; use <= 1; use++) {
            int own = use;
            Edge.answersAlone("FAULT 0", () -> withTape("?", 1), y -> y.told(own), -1);
            Edge.answersAlone("FAULT 0 without bytes", () -> withTape("", 1), y -> y.told(own), -1);
            Edge.answersAlone("FAULT 100", () -> withTape(" ".repeat(100), 6), y -> y.told(own), -101);
        }
    }

    private static void force() {
        Edge.sentence(14, "THE LAW becomes a LAW, or none (-1): which it was.");
        WarmGlass x = withTape("", 6);
        Edge.due("the first", x.force(0), -1);
        Edge.due("the last", x.force(5), 0);
        Edge.due("the same", x.force(5), 5);
        Edge.due("none", x.force(-1), 5);
        Edge.due("none again", x.force(-1), -1);
        Edge.answersAlone("none of no LAWS", Scenes.EMPTY, y -> y.force(-1), -1);
        Edge.sentence(14, "BEYOND.");
        Edge.refusedEach("law", Scenes.RICH, Check.BEYOND, (y, law) -> y.force(law), MIN, -2, 3, 6, MAX);
        Edge.refusedEach("law of six", Scenes.FULL, Check.BEYOND, (y, law) -> y.force(law), MIN, -2, 6, 7, MAX);
        Edge.refused("of no LAWS", Scenes.EMPTY, Check.BEYOND, y -> y.force(0));
    }

    private static void tells() {
        Edge.sentence(15, "What a LAW tells now of a CELL (not held).");
        Edge.answersAlone("below 0", () -> Scenes.withLaw("less(0,1)"), x -> x.tells(0, 0), -1);
        Edge.answersAlone("above 9999", () -> Scenes.withLaw("sum(9999,1)"), x -> x.tells(0, 0), 10000);
        Edge.answersAlone("the least", () -> Scenes.withLaw(Scenes.LEAST_INT), x -> x.tells(0, 0), MIN);
        Edge.answersAlone("the most", () -> Scenes.withLaw(Scenes.MOST_INT), x -> x.tells(0, 0), MAX);
        Edge.answersAlone("one that looks like a finding", () -> Scenes.withLaw("less(0,sum(mul(mul(1000,1000),1000),1))"),
            x -> x.tells(0, 0), Check.BEYOND);
        WarmGlass y = Scenes.withLaw("h");
        y.hours(3);
        Edge.due("now", y.tells(0, 0), 3);
        Edge.sentence(15, "BEYOND.");
        Edge.refusedEach("law", Scenes.RICH, Check.BEYOND, (x, law) -> x.tells(law, 0), MIN, -1, 3, 6, MAX);
        Edge.refusedEach("cell", Scenes.RICH, Check.BEYOND, (x, c) -> x.tells(0, c), CellEdges.NO_CELLS);
    }

    private static void says() {
        Edge.sentence(16, "FLOOR (use 0), CHOICE (1) of a CELL, now.");
        WarmGlass x = new WarmGlass();
        x.cell(0, 1010000, 0, 3);
        x.cell(4, 1010000, 0, 4);
        Check.told(x, "sum(mul(h,1000),sum(mul(c,100),w))", 0);
        Check.told(x, "sum(mul(h,2000),sum(mul(c,100),sum(w,t)))", 1);
        x.hours(2);
        Edge.due("FLOOR of the first", x.says(0, 0), 2003);
        Edge.due("FLOOR of the other", x.says(0, 1), 2104);
        Edge.due("CHOICE of the first", x.says(1, 0), 4003);
        Edge.due("CHOICE of the other", x.says(1, 1), 4109);
        Edge.sentence(16, "BEYOND.");
        Edge.refusedEach("use", Scenes.RICH, Check.BEYOND, (y, use) -> y.says(use, 0), MIN, -1, 2, MAX);
        Edge.refusedEach("cell", Scenes.RICH, Check.BEYOND, (y, c) -> y.says(0, c), CellEdges.NO_CELLS);
        Edge.refusedEach("cell of CHOICE", Scenes.RICH, Check.BEYOND, (y, c) -> y.says(1, c), CellEdges.NO_CELLS);
        Edge.refused("without FLOOR of no CELL", Scenes.EMPTY, Check.BEYOND, y -> y.says(0, 0));
    }
}
