/** All that can be asked of an object, in parts: asking some of it changes it, and it has 512 calls only. */
final class Probe {
    static final int PARTS = 7;
    private static final int MOST_ASKED = 400;

    private final WarmGlass x;
    private final StringBuilder all = new StringBuilder();
    private int asked = 0;

    private Probe(WarmGlass x) {
        this.x = x;
    }

    static String of(WarmGlass x, int part) {
        Probe p = new Probe(x);
        switch (part) {
            case 0: p.cells(); break;
            case 1: p.houses(); break;
            case 2: p.wouldBe(); break;
            case 3: p.sheets(); break;
            case 4: p.onwards(); break;
            case 5: p.kept(); p.cells(); break;
            default: p.kept(); p.houses(); break;
        }
        if (p.asked > MOST_ASKED) {
            throw new IllegalStateException("part " + part + " asks " + p.asked + " times");
        }
        return p.all.toString();
    }

    private void tell(String what, long answer) {
        asked++;
        all.append(what).append(" = ").append(answer).append('\n');
    }

    private void counts() {
        for (int what = 0; what <= 6; what++) {
            tell("count(" + what + ")", x.count(what));
        }
    }

    private void cells() {
        counts();
        for (int c = 0; c < 8; c++) {
            for (int what = 0; what <= 9; what++) {
                tell("of(" + c + ", " + what + ")", x.of(c, what));
            }
            hourOf(c);
            for (int use = 0; use <= 1; use++) {
                tell("says(" + use + ", " + c + ")", x.says(use, c));
            }
            for (int law = 0; law < 6; law++) {
                tell("tells(" + law + ", " + c + ")", x.tells(law, c));
                tell("must(" + c + ", " + law + ")", x.must(c, law));
            }
        }
    }

    private void hourOf(int c) {
        for (int what = 0; what <= 4; what++) {
            tell("latest(" + c + ", " + what + ")", x.latest(c, what));
        }
        for (int what = 0; what <= 3; what++) {
            tell("ever(" + c + ", " + what + ")", x.ever(c, what));
        }
    }

    private void houses() {
        for (int h = 0; h < 8; h++) {
            for (int what = 0; what <= 9; what++) {
                tell("houseOf(" + h + ", " + what + ")", x.houseOf(h, what));
            }
            tell("since(" + h + ", 0)", x.since(h, 0));
            tell("since(" + h + ", 1)", x.since(h, 1));
            tell("moved(" + h + ")", x.moved(h));
            tell("order(" + h + ")", x.order(h));
            tell("shared(1000, " + h + ")", x.shared(1000, h));
            tell("line(" + h + ", 1)", x.line(h, 1));
            tell("line(" + h + ", 2)", x.line(h, 2));
            tell("moved(" + h + ") then", x.moved(h));
        }
        for (int v = 0; v <= 2; v++) {
            tell("saying(" + v + ")", x.saying(v));
        }
    }

    private void wouldBe() {
        for (int c = 0; c < 8; c++) {
            for (int what = 0; what <= 4; what++) {
                tell("foretold(" + c + ", -1, 3, " + what + ")", x.foretold(c, -1, 3, what));
                tell("foretold(" + c + ", 1, 0, " + what + ")", x.foretold(c, 1, 0, what));
                tell("foretold(" + c + ", 0, 9, " + what + ")", x.foretold(c, 0, 9, what));
            }
            tell("night(" + c + ", 50)", x.night(c, 50));
            tell("need(" + c + ", 700, 3)", x.need(c, 700, 3));
            tell("barred(" + c + ", 1, 40)", x.barred(c, 1, 40));
        }
    }

    private void sheets() {
        for (int s = 0; s < 4; s++) {
            for (int i = 0; i <= 40; i++) {
                tell("write(" + s + ", " + i + ", -70000)", x.write(s, i, -70000));
            }
            tell("write(" + s + ", 0, 0), its bits", x.write(s, 0, 0));
        }
        tell("count(5)", x.count(5));
        tell("told(0)", x.told(0));
        tell("says(0, 0)", x.says(0, 0));
        tell("wipe()", x.wipe());
    }

    private void onwards() {
        tell("hours(2)", x.hours(2));
        counts();
        for (int c = 0; c < 8; c++) {
            tell("of(" + c + ", 5)", x.of(c, 5));
            tell("of(" + c + ", 6)", x.of(c, 6));
            tell("of(" + c + ", 7)", x.of(c, 7));
            hourOf(c);
        }
        for (int h = 0; h < 8; h++) {
            for (int what = 5; what <= 9; what++) {
                tell("houseOf(" + h + ", " + what + ")", x.houseOf(h, what));
            }
        }
    }

    private void kept() {
        tell("undo()", x.undo());
        tell("tear()", x.tear());
        tell("undo() then", x.undo());
    }
}
