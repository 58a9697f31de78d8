/** Objects in which edges are tried. */
final class Scenes {
    static final Edge.Scene EMPTY = WarmGlass::new;
    static final Edge.Scene RICH = Scenes::rich;
    static final Edge.Scene FULL = Scenes::full;

    /** Texts of the least and of the greatest int. */
    static final String LEAST_INT = "mul(mul(mul(8,8192),8192),4)";
    static final String MOST_INT = "less(" + LEAST_INT + ",1)";

    private Scenes() {
    }

    /**
     * Some of all: 6 CELLS, one of each KIND; 3 LAWS, the last behind the image; 5 HOUSES, of which 0 took it back, 2
     * says nothing, the others say MORE; three sheets, the fourth is MISSING; a TEXT on THE TAPE; an image of NOW 3.
     */
    private static WarmGlass rich() {
        WarmGlass x = new WarmGlass();
        for (int kind = 0; kind < 6; kind++) {
            x.cell(kind, 10021000 + kind, 25, 9000 + kind);
        }
        Check.law(x, "sum(t,h)", 50);
        Check.law(x, "30", 200);
        Check.told(x, "sum(t,sum(c,h))", 0);
        Check.told(x, "less(h,2)", 1);
        x.force(1);
        x.house(2004, 10);
        x.house(99000, 100);
        x.house(1011, 99999);
        x.house(60105, 500);
        x.power(4, 0);
        x.hours(1);
        x.power(4, 9999);
        x.hours(2);
        x.line(1, 9);
        x.show(1);
        x.image();
        x.house(99002, 9000);
        Check.law(x, "less(900,mul(c,9))", 999);
        x.line(0, 5);
        x.show(0);
        x.line(0, 6);
        x.hours(3);
        sheets(x);
        Check.feed(x, "sum(41,1)");
        return x;
    }

    private static void sheets(WarmGlass x) {
        x.sheet(0, 8, 5);
        x.sheet(1, 16, 5);
        x.sheet(2, 64, 40);
        for (int i = 0; i < 5; i++) {
            x.write(0, i, 11 * i - 20);
            x.write(1, i, 1111 * i - 2000);
            x.write(2, 8 * i, 1111111111111L * i - 2000000000000L);
        }
    }

    /** As much as there can be of all: 8 CELLS, 6 LAWS, 8 HOUSES, 100 bytes, 4 sheets, NOW 2000; no image. */
    private static WarmGlass full() {
        WarmGlass x = new WarmGlass();
        for (int i = 0; i < 8; i++) {
            x.cell(i % 6, 10020000 + 100 * i, 10, 9999);
            x.house(1000 * (i + 1) + i, 1000 * (i + 1));
        }
        for (int i = 0; i < 6; i++) {
            Check.law(x, "sum(" + i + ",c)", 100 + i);
        }
        x.force(5);
        for (int i = 0; i < 20; i++) {
            x.hours(100);
        }
        for (int i = 0; i < 4; i++) {
            x.sheet(i, i == 0 ? 8 : i == 1 ? 16 : 64, 40);
        }
        Check.feed(x, " ".repeat(96) + "1234");
        return x;
    }

    /** Some of all, but no image any more. */
    static WarmGlass torn() {
        WarmGlass x = rich();
        x.tear();
        return x;
    }

    /** One CELL of a KIND without POWER, behind an HOUR in which a LAW made so much. */
    static WarmGlass heated(int kind, int mass, int loss, int makes) {
        WarmGlass x = new WarmGlass();
        x.cell(kind, mass * 1000000 + loss * 10000, 0, 1);
        Check.law(x, String.valueOf(makes), 0);
        x.force(0);
        x.hours(1);
        x.force(-1);
        return x;
    }

    /** One CELL of a KIND behind an HOUR, of MASS 99 and LOSS 1. */
    static WarmGlass burnt(int kind, int power, int gas, int water) {
        WarmGlass x = new WarmGlass();
        x.cell(kind, 99010000 + power, gas, water);
        x.hours(1);
        return x;
    }

    /** A JACKET whose thermometer tells 5 in each HOUR, so that a HOUSE counts 5 times its LOSS less POWER. */
    static WarmGlass jacket() {
        WarmGlass x = new WarmGlass();
        x.cell(4, 99010000, 0, 9999);
        return x;
    }

    /** A JACKET whose POWER all goes as GAS: its thermometer tells 5 with any POWER, too. */
    static WarmGlass cold() {
        WarmGlass x = new WarmGlass();
        x.cell(4, 99010000, 100, 9999);
        return x;
    }

    /** An HOUR in which CELL 0 has this POWER; of cold() a HOUSE by GAS back counts 5 times its LOSS less it. */
    static void hourOf(WarmGlass x, int power) {
        x.power(0, power);
        x.hours(1);
    }

    /** READS are 60, 108, 146, 177 without a LAW; 68, 122, 166 by LAW 0. */
    static WarmGlass one() {
        WarmGlass x = new WarmGlass();
        x.cell(0, 10021000, 25, 9999);
        Check.law(x, "100", 50);
        Check.told(x, "7", 0);
        return x;
    }

    /** An object with a CELL of POWER 40, WATER 50 and a LAW (0, by RAY 100). */
    static WarmGlass withLaw(String text) {
        WarmGlass x = new WarmGlass();
        x.cell(1, 3010040, 0, 50);
        Check.law(x, text, 100);
        return x;
    }
}
