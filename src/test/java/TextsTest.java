/** Promises 10 to 16: the texts. */
public final class TextsTest {
    public static void main(String[] args) {
        feedAndWipe();
        faults();
        goodTexts();
        whatFunctionsAre();
        lawsAreHeld();
        floorAndChoice();
        forceOfLaws();
        tellsAndSays();
        Check.end();
    }

    private static void due(String what, long got, long want) {
        Check.due(what, got, want);
    }

    private static void feedAndWipe() {
        WarmGlass x = new WarmGlass();
        due("n 0", x.feed(1, 0), Check.BEYOND);
        due("n 5", x.feed(1, 5), Check.BEYOND);
        due("n -1", x.feed(1, -1), Check.BEYOND);
        due("feed 1", x.feed('9' | '8' << 8, 1), 1);
        due("feed 2, the highest of these first", x.feed('2' << 8 | '1', 2), 3);
        due("feed 3", x.feed('x' << 24 | ' ' << 16 | ' ' << 8 | ' ', 3), 6);
        due("told", x.told(0), 0);
        x.cell(0, 1010000, 0, 0);
        due("its bytes", x.says(0, 0), 921);
        for (int i = 1; i <= 24; i++) {
            due("feed 4", x.feed(0x20202020, 4), 4 * i);
        }
        due("feed 3", x.feed(0x202020, 3), 99);
        due("feed 2 at 99", x.feed(0x2020, 2), Check.FULL);
        due("BEYOND is asked ahead of FULL", x.feed(0x2020, 7), Check.BEYOND);
        due("it stays", x.count(5), 99);
        due("feed 1 at 99", x.feed('7', 1), 100);
        due("feed 1 at 100", x.feed('7', 1), Check.FULL);
        due("a hundred bytes are a TEXT", x.law(0), 0);
        due("it is empty then", x.count(5), 0);
        due("what it tells", x.tells(0, 0), 7);
        Check.feed(x, "abc");
        due("wipe", x.wipe(), 3);
        due("wipe again", x.wipe(), 0);
    }

    private static void fault(String text, int place) {
        WarmGlass x = new WarmGlass();
        due("law of \"" + text + "\"", Check.law(x, text, 1), -1 - place);
        due("its TAPE stays", x.count(5), text.length());
        due("no LAW", x.count(2), 0);
        due("told of \"" + text + "\"", x.told(0), -1 - place);
        due("told(1) of \"" + text + "\"", x.told(1), -1 - place);
        due("its TAPE stays still", x.count(5), text.length());
        due("no finding", x.status(-1), 0);
    }

    private static void faults() {
        fault("", 0);
        fault("   ", 3);
        fault("10000", 0);
        fault(" 99999999999999999999 ", 1);
        fault("4294967297", 0);
        fault("x", 0);
        fault(" pt", 1);
        fault("summ(1,2)", 0);
        fault("xless(1,2)", 0);
        fault("aaaap", 0);
        fault("sum", 3);
        fault("sum  ", 5);
        fault("sum p", 4);
        fault("sum2", 3);
        fault("sum(", 4);
        fault("sum()", 4);
        fault("sum(1", 5);
        fault("sum(1)", 5);
        fault("sum(1,", 6);
        fault("sum(1,)", 6);
        fault("sum(1,2", 7);
        fault("sum(1,2,3)", 7);
        fault("sum(1,2))", 8);
        fault("sum(1,2) 3", 9);
        fault("sum(1 2)", 6);
        fault("if(1,2)", 6);
        fault("if(1,2,3,4)", 8);
        fault("if p", 3);
        fault("p(", 1);
        fault("p p", 2);
        fault("1 2", 2);
        fault("(1)", 0);
        fault(",", 0);
        fault(")", 0);
        fault("1;", 1);
        fault(";", 0);
        fault("P", 0);
        fault("\t1", 0);
        fault("1\n", 1);
        fault("-1", 0);
        fault("\u00e9", 0);
        fault("sum(\u00ff,1)", 4);
        fault("1 \u0000", 2);
        fault("sum(10000,1)", 4);
        fault("sum(1,sum(1,sum(1,sum(1,sum(1,sum(1,1))))))", 33);
        fault("sum(1,sum(1,sum(1,sum(1,sum(1,sum", 33);
        fault("if(0,1,if(0,1,if(0,1,if(0,1,if(0,1,if(0,1,2))))))", 37);
        fault("sum(sum(sum(sum(sum(1,2),3),4),5),6", 35);
        fault("sum(1(", 5);
    }

    private static void tells(String text, int want) {
        WarmGlass x = new WarmGlass();
        x.cell(1, 3010040, 0, 50);
        due("law of \"" + text + "\"", Check.law(x, text, 1), 0);
        due("THE TAPE is empty then", x.count(5), 0);
        due("\"" + text + "\" tells", x.tells(0, 0), want);
    }

    private static void goodTexts() {
        tells("0", 0);
        tells("9999", 9999);
        tells("00000000000000000000009999", 9999);
        tells("  7  ", 7);
        tells("p", 40);
        tells("w", 50);
        tells("c", 0);
        tells("h", 0);
        tells("t", 0);
        tells("sum(1,2)", 3);
        tells(" sum ( 1 , 2 ) ", 3);
        tells("if(0,1,2)", 2);
        tells("if(5,1,2)", 1);
        tells("if(less(0,1),1,2)", 1);
        tells("sum(sum(sum(sum(sum(1,2),3),4),5),6)", 21);
        tells("sum(1,sum(2,sum(3,sum(4,sum(5,6)))))", 21);
        tells("sum(sum(1,sum(1,1)),sum(1,sum(1,sum(1,sum(1,1)))))", 8);
        tells("if(0,1,if(0,2,if(0,3,if(0,4,if(0,5,6)))))", 6);
        tells("if(if(if(if(if(1,0,1),2,0),3,4),0,1),9,8)", 8);
    }

    private static void whatFunctionsAre() {
        tells("less(1,3)", -2);
        tells("mul(7,6)", 42);
        tells("part(7,2)", 3);
        tells("part(less(0,7),2)", -3);
        tells("part(7,0)", 0);
        tells("min(3,5)", 3);
        tells("min(5,3)", 3);
        tells("max(3,5)", 5);
        tells("max(less(0,5),3)", 3);
        tells("mul(mul(9999,9999),100)", 1408065508);
        tells("mul(mul(mul(8,8192),8192),4)", Integer.MIN_VALUE);
        tells("less(mul(mul(mul(8,8192),8192),4),1)", Integer.MAX_VALUE);
        tells("part(mul(mul(mul(8,8192),8192),4),less(0,1))", Integer.MIN_VALUE);
        tells("if(1,part(1,0),2)", 0);
    }

    private static void lawsAreHeld() {
        WarmGlass x = new WarmGlass();
        x.cell(0, 1010000, 0, 0);
        Check.feed(x, "1");
        due("ray -1", x.law(-1), Check.BEYOND);
        due("ray 1000", x.law(1000), Check.BEYOND);
        due("THE TAPE stays", x.count(5), 1);
        due("ray 999", x.law(999), 0);
        for (int i = 1; i < 6; i++) {
            due("law " + i, Check.law(x, String.valueOf(i + 1), 0), i);
        }
        Check.feed(x, "?");
        due("the seventh: FULL is asked ahead of a FAULT", x.law(0), Check.FULL);
        due("BEYOND is asked ahead of FULL", x.law(1000), Check.BEYOND);
        due("THE TAPE stays", x.count(5), 1);
        due("LAWS", x.count(2), 6);
        for (int i = 0; i < 6; i++) {
            due("tells " + i, x.tells(i, 0), i + 1);
            due("must " + i, x.must(0, i), i == 0 ? 9 : 0);
        }
    }

    private static void floorAndChoice() {
        WarmGlass x = new WarmGlass();
        x.cell(0, 1010000, 0, 0);
        due("without FLOOR", x.says(0, 0), 0);
        due("without CHOICE", x.says(1, 0), 1);
        Check.feed(x, "5");
        due("use -1", x.told(-1), Check.BEYOND);
        due("use 2", x.told(2), Check.BEYOND);
        due("told(0)", x.told(0), 0);
        due("THE TAPE is empty then", x.count(5), 0);
        due("FLOOR", x.says(0, 0), 5);
        due("CHOICE is still without", x.says(1, 0), 1);
        due("told(1)", Check.told(x, "6", 1), 0);
        due("CHOICE", x.says(1, 0), 6);
        due("FLOOR again", Check.told(x, "8", 0), 0);
        due("the new FLOOR", x.says(0, 0), 8);
        due("without bytes", x.told(0), -1);
        due("FLOOR stays", x.says(0, 0), 8);
    }

    private static void forceOfLaws() {
        WarmGlass x = new WarmGlass();
        due("force(0) without LAWS", x.force(0), Check.BEYOND);
        due("force(-1)", x.force(-1), -1);
        Check.law(x, "1", 0);
        Check.law(x, "2", 0);
        due("force(1)", x.force(1), -1);
        due("force(0)", x.force(0), 1);
        due("force(2)", x.force(2), Check.BEYOND);
        due("force(-2)", x.force(-2), Check.BEYOND);
        due("THE LAW", x.count(4), 0);
        due("force(-1) again", x.force(-1), 0);
        due("no LAW", x.count(4), -1);
    }

    private static void tellsAndSays() {
        WarmGlass x = new WarmGlass();
        x.cell(0, 1010000, 0, 0);
        x.cell(4, 10021000, 25, 3);
        Check.law(x, "t", 0);
        Check.law(x, "p", 0);
        Check.law(x, "h", 0);
        Check.law(x, "c", 0);
        Check.law(x, "w", 0);
        Check.law(x, "less(0,mul(9999,9999))", 0);
        Check.told(x, "t", 0);
        Check.told(x, "t", 1);
        due("p with WATER", x.tells(1, 1), 1000);
        x.hours(1);
        due("t is WARMTH", x.tells(0, 1), 60);
        due("FLOOR by WARMTH", x.says(0, 1), 60);
        due("CHOICE by READ", x.says(1, 1), 35);
        due("p without WATER", x.tells(1, 1), 0);
        due("h", x.tells(2, 1), 1);
        due("c", x.tells(3, 1), 1);
        due("w", x.tells(4, 1), 0);
        due("not held", x.tells(5, 0), -99980001);
        due("tells of LAW -1", x.tells(-1, 0), Check.BEYOND);
        due("tells of no LAW", x.tells(6, 0), Check.BEYOND);
        due("tells of no CELL", x.tells(0, 2), Check.BEYOND);
        due("says use -1", x.says(-1, 0), Check.BEYOND);
        due("says use 2", x.says(2, 0), Check.BEYOND);
        due("says of no CELL", x.says(0, 2), Check.BEYOND);
        WarmGlass y = new WarmGlass();
        y.cell(0, 1010000, 0, 0);
        Check.law(y, "less(0,mul(mul(9999,9999),12))", 0);
        due("an answer below -1000000000 that is no finding", y.tells(0, 0), -1199760012);
        due("isn't counted", y.status(-1), 0);
    }
}
