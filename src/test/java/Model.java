import java.util.ArrayList;
import java.util.Arrays;
import java.util.HashMap;
import java.util.List;
import java.util.Map;

/**
 * The document once more, built another way than the program: trees for texts, classes for kinds, and a copy of the
 * whole glass for all that would be. Tests hold the program against it.
 */
final class Model {
    static final String[] NAMES = {"p", "t", "h", "c", "w"};
    static final List<String> FUNCTIONS = Arrays.asList("sum", "less", "mul", "part", "min", "max");

    /** An answer that is a finding. */
    static final class Finding extends Exception {
        private static final long serialVersionUID = 1L;
        final int which;

        Finding(int which) {
            super(null, null, false, false);
            this.which = which;
        }
    }

    static void ask(boolean holds, int otherwise) throws Finding {
        if (!holds) {
            throw new Finding(otherwise);
        }
    }

    static final int BEYOND = 0;
    static final int FULL = 1;
    static final int KIND = 2;
    static final int NONE = 3;
    static final int STATE = 4;
    static final int MISSING = 5;
    static final int SIZE = 6;

    // ---- texts

    static final class Tree {
        String word;
        int number;
        List<Tree> parts = new ArrayList<>();

        int of(Map<String, Integer> names) {
            if (word == null) {
                return number;
            }
            if (parts.isEmpty()) {
                return names.get(word);
            }
            int a = parts.get(0).of(names);
            int b = parts.get(1).of(names);
            switch (word) {
                case "sum": return a + b;
                case "less": return a - b;
                case "mul": return a * b;
                case "part": return b == 0 ? 0 : a / b;
                case "min": return a < b ? a : b;
                case "max": return a > b ? a : b;
                default: return a != 0 ? b : parts.get(2).of(names);
            }
        }
    }

    static final class Fault extends Exception {
        private static final long serialVersionUID = 1L;
        final int place;

        Fault(int place) {
            super(null, null, false, false);
            this.place = place;
        }
    }

    static final class Reader {
        final String tape;
        final List<String> tokens = new ArrayList<>();
        final List<Integer> places = new ArrayList<>();
        int next = 0;

        Reader(String tape) {
            this.tape = tape;
            int i = 0;
            while (i < tape.length()) {
                String rest = tape.substring(i);
                String token = rest.replaceFirst("(?s)^([a-z]+|[0-9]+|.).*$", "$1");
                if (!token.equals(" ")) {
                    tokens.add(token);
                    places.add(i);
                }
                i += token.length();
            }
        }

        String peek() throws Fault {
            if (next >= tokens.size()) {
                throw new Fault(tape.length());
            }
            return tokens.get(next);
        }

        void take(String token) throws Fault {
            if (!peek().equals(token)) {
                throw new Fault(places.get(next));
            }
            next++;
        }

        Tree text() throws Fault {
            Tree e = expression(0);
            if (next < tokens.size()) {
                throw new Fault(places.get(next));
            }
            return e;
        }

        Tree expression(int open) throws Fault {
            Tree e = new Tree();
            String token = peek();
            boolean isF = FUNCTIONS.contains(token) || token.equals("if");
            if (token.matches("0*[0-9]{1,4}")) {
                e.number = Integer.parseInt(token);
            } else if (Arrays.asList(NAMES).contains(token) || isF) {
                e.word = token;
            } else {
                throw new Fault(places.get(next));
            }
            next++;
            if (isF) {
                if (open == 5) {
                    peek();
                    throw new Fault(places.get(next));
                }
                take("(");
                int parts = token.equals("if") ? 3 : 2;
                for (int i = 0; i < parts; i++) {
                    if (i > 0) {
                        take(",");
                    }
                    e.parts.add(expression(open + 1));
                }
                take(")");
            }
            return e;
        }
    }

    // ---- kinds

    static class Cell {
        int power;
        int loss;
        int mass;
        int gas;
        int water;
        int heat;
        int store;
        int[] latest = new int[5];
        int[] ever = new int[4];

        int kind() {
            return 0;
        }

        int back(int g) {
            return 0;
        }

        int stored(int rest) {
            return 0;
        }

        int read() {
            return heat / mass;
        }

        Cell copy() {
            Cell c = ofKind(kind());
            c.power = power;
            c.loss = loss;
            c.mass = mass;
            c.gas = gas;
            c.water = water;
            c.heat = heat;
            c.store = store;
            c.latest = latest.clone();
            c.ever = ever.clone();
            return c;
        }

        static Cell ofKind(int kind) {
            switch (kind) {
                case 0: return new Cell();
                case 1: return new Stirred();
                case 2: return new Burning();
                case 3: return new Storing();
                case 4: return new Jacket();
                default: return new Counted();
            }
        }
    }

    static class Stirred extends Cell {
        @Override
        int kind() {
            return 1;
        }

        @Override
        int read() {
            return super.read() + super.read() / 10;
        }
    }

    static class Burning extends Stirred {
        @Override
        int kind() {
            return 2;
        }

        @Override
        int back(int g) {
            return g / 2;
        }
    }

    static class Storing extends Cell {
        @Override
        int kind() {
            return 3;
        }

        @Override
        int stored(int rest) {
            return rest / 5;
        }
    }

    static class Jacket extends Cell {
        @Override
        int kind() {
            return 4;
        }

        @Override
        int read() {
            return super.read() / 2 + 5;
        }
    }

    static class Counted extends Burning {
        @Override
        int kind() {
            return 5;
        }

        @Override
        int back(int g) {
            return super.back(g) + g / 10;
        }

        @Override
        int read() {
            return super.read() + 1;
        }
    }

    static final Class<?>[] KINDS = {
        Cell.class, Stirred.class, Burning.class, Storing.class, Jacket.class, Counted.class
    };

    static final class House {
        long[] of = new long[5];
        long hours;
        long[] balance = new long[2];
        int says;
        int[] since = new int[2];
        int line;
        boolean shown;
        int moved;

        House copy() {
            House h = new House();
            h.of = of.clone();
            h.hours = hours;
            h.balance = balance.clone();
            h.says = says;
            h.since = since.clone();
            h.line = line;
            h.shown = shown;
            h.moved = moved;
            return h;
        }

        long its() {
            return balance[(int) of[2]];
        }
    }

    /** What an image keeps. */
    static final class Glass {
        int now;
        List<Cell> cells = new ArrayList<>();
        List<Tree> laws = new ArrayList<>();
        List<Integer> rays = new ArrayList<>();
        List<House> houses = new ArrayList<>();
        int theLaw = -1;
        Tree floor;
        Tree choice;
        /** MAKES in place of what THE LAW tells, or null. */
        Integer forced;

        Glass copy() {
            Glass g = new Glass();
            g.now = now;
            for (Cell c : cells) {
                g.cells.add(c.copy());
            }
            g.laws.addAll(laws);
            g.rays.addAll(rays);
            for (House h : houses) {
                g.houses.add(h.copy());
            }
            g.theLaw = theLaw;
            g.floor = floor;
            g.choice = choice;
            return g;
        }

        int worked(Tree tree, int cell, boolean byRead) {
            Cell c = cells.get(cell);
            Map<String, Integer> names = new HashMap<>();
            names.put("p", c.water == 0 ? 0 : c.power);
            names.put("t", byRead ? c.read() : c.heat / c.mass);
            names.put("h", now);
            names.put("c", cell);
            names.put("w", c.water);
            return tree.of(names);
        }

        int floorOf(int cell) {
            return floor == null ? 0 : worked(floor, cell, false);
        }

        int choiceOf(int cell) {
            return choice == null ? 1 : worked(choice, cell, true);
        }

        int held(int law, int cell) {
            return law == -1 ? 0 : Math.min(9999, Math.max(0, worked(laws.get(law), cell, false)));
        }

        void hour() {
            int[] makes = new int[cells.size()];
            for (int i = 0; i < makes.length; i++) {
                makes[i] = forced != null ? forced : held(theLaw, i);
            }
            for (int i = 0; i < makes.length; i++) {
                hourOf(i, makes[i]);
            }
            for (House h : houses) {
                hourOf(h);
            }
            now++;
        }

        void hourOf(int i, int makes) {
            Cell c = cells.get(i);
            int p = c.water == 0 ? 0 : c.power;
            int g = p * c.gas / 100;
            int goes = g - c.back(g);
            for (int begun = 0; begun < g && c.water > 0; begun += 100) {
                c.water--;
            }
            int stored = c.stored(p - goes);
            c.heat += p - goes - stored;
            c.store += stored;
            if (c.store >= 1000) {
                c.heat += c.store;
                c.store = 0;
            }
            c.heat += makes;
            int loses = Math.min(c.heat, c.heat / c.mass * c.loss);
            c.heat -= loses;
            int ray = theLaw == -1 || forced != null ? 0 : makes * rays.get(theLaw) / 100;
            c.latest = new int[] {p, goes, makes, loses, floorOf(i) + ray};
            for (int k = 0; k < 4; k++) {
                c.ever[k] += c.latest[k];
            }
        }

        void hourOf(House h) {
            Cell c = cells.get((int) h.of[0]);
            if (h.of[3] == 0 || choiceOf((int) h.of[0]) != 0) {
                h.hours++;
                int p = c.latest[0];
                h.balance[0] += c.read() * h.of[1] - (p - p * c.gas / 100);
                h.balance[1] += c.read() * h.of[1] - p;
            }
            if (h.says == 0 && h.its() >= h.of[4]) {
                h.says = 1;
                h.since[0] = now;
            } else if (h.says == 1 && h.its() <= 0) {
                h.says = 2;
                h.since[1] = now;
            }
        }

        Glass after(int law, int n) {
            Glass g = copy();
            g.theLaw = law;
            for (int i = 0; i < n; i++) {
                g.hour();
            }
            return g;
        }
    }

    Glass glass = new Glass();
    Glass kept = null;
    String tape = "";
    /** Numbers of a sheet, or null. */
    long[][] sheets = new long[4][];
    int[] bits = new int[4];
    int[] found = new int[7];

    /** The answer to a call: its name and its arguments. */
    long call(String name, long... a) {
        try {
            return answer(name, a);
        } catch (Finding f) {
            found[f.which]++;
            return -1000000001L - f.which;
        }
    }

    Cell cellOf(long i) throws Finding {
        ask(i >= 0 && i < glass.cells.size(), BEYOND);
        return glass.cells.get((int) i);
    }

    House houseAt(long i) throws Finding {
        ask(i >= 0 && i < glass.houses.size(), BEYOND);
        return glass.houses.get((int) i);
    }

    void range(long v, long least, long most) throws Finding {
        ask(v >= least && v <= most, BEYOND);
    }

    void lawOrNone(long v) throws Finding {
        range(v, -1, glass.laws.size() - 1);
    }

    long[] sheetOf(long s) throws Finding {
        range(s, 0, 3);
        ask(sheets[(int) s] != null, MISSING);
        return sheets[(int) s];
    }

    static long cut(long v, int bits) {
        return bits == 64 ? v : v << (64 - bits) >> (64 - bits);
    }

    long answer(String name, long[] a) throws Finding {
        switch (name) {
            case "cell": case "power": case "top": case "hours": case "of": case "latest": case "ever": case "as":
                return cells(name, a);
            case "feed": case "wipe": case "law": case "told": case "force": case "tells": case "says":
                return texts(name, a);
            case "house": case "houseOf": case "since": case "order": case "saying": case "beside": case "shared":
            case "line": case "show": case "moved":
                return houses(name, a);
            case "foretold": case "parted": case "look": case "must": case "barred": case "night": case "need":
            case "read":
                return wouldBe(name, a);
            default:
                return sheetsAndImages(name, a);
        }
    }

    long cells(String name, long[] a) throws Finding {
        switch (name) {
            case "cell": {
                range(a[0], 0, 5);
                range(a[1], 0, 99999999);
                range(a[1] / 1000000, 1, 99);
                range(a[1] % 1000000 / 10000, 1, 99);
                range(a[2], 0, 100);
                range(a[3], 0, 9999);
                ask(glass.cells.size() < 8, FULL);
                Cell c = Cell.ofKind((int) a[0]);
                c.mass = (int) (a[1] / 1000000);
                c.loss = (int) (a[1] % 1000000 / 10000);
                c.power = (int) (a[1] % 10000);
                c.gas = (int) a[2];
                c.water = (int) a[3];
                glass.cells.add(c);
                return glass.cells.size() - 1;
            }
            case "power": {
                Cell c = cellOf(a[0]);
                range(a[1], 0, 9999);
                int was = c.power;
                c.power = (int) a[1];
                return was;
            }
            case "top": {
                Cell c = cellOf(a[0]);
                range(a[1], 1, 9999);
                c.water = (int) Math.min(9999, c.water + a[1]);
                return c.water;
            }
            case "hours": {
                range(a[0], 1, 100);
                ask(glass.now + a[0] <= 2000, STATE);
                for (int i = 0; i < a[0]; i++) {
                    glass.hour();
                }
                return glass.now;
            }
            case "of": {
                Cell c = cellOf(a[0]);
                range(a[1], 0, 9);
                return new int[] {c.kind(), c.power, c.loss, c.mass, c.gas, c.water, c.heat, c.store, c.heat / c.mass,
                    c.read()}[(int) a[1]];
            }
            case "latest": {
                Cell c = cellOf(a[0]);
                range(a[1], 0, 4);
                return c.latest[(int) a[1]];
            }
            case "ever": {
                Cell c = cellOf(a[0]);
                range(a[1], 0, 3);
                return c.ever[(int) a[1]];
            }
            default: {
                Cell c = cellOf(a[0]);
                range(a[1], 0, 5);
                ask(KINDS[(int) a[1]].isInstance(c), KIND);
                return c.read();
            }
        }
    }

    long texts(String name, long[] a) throws Finding {
        try {
            switch (name) {
                case "feed":
                    range(a[1], 1, 4);
                    ask(tape.length() + a[1] <= 100, FULL);
                    for (int i = (int) a[1] - 1; i >= 0; i--) {
                        tape += (char) (a[0] >> (8 * i) & 255);
                    }
                    return tape.length();
                case "wipe": {
                    int had = tape.length();
                    tape = "";
                    return had;
                }
                case "law":
                    range(a[0], 0, 999);
                    ask(glass.laws.size() < 6, FULL);
                    glass.laws.add(new Reader(tape).text());
                    glass.rays.add((int) a[0]);
                    tape = "";
                    return glass.laws.size() - 1;
                case "told": {
                    range(a[0], 0, 1);
                    Tree e = new Reader(tape).text();
                    if (a[0] == 0) {
                        glass.floor = e;
                    } else {
                        glass.choice = e;
                    }
                    tape = "";
                    return 0;
                }
                case "force": {
                    lawOrNone(a[0]);
                    int was = glass.theLaw;
                    glass.theLaw = (int) a[0];
                    return was;
                }
                case "tells":
                    range(a[0], 0, glass.laws.size() - 1);
                    cellOf(a[1]);
                    return glass.worked(glass.laws.get((int) a[0]), (int) a[1], false);
                default:
                    range(a[0], 0, 1);
                    cellOf(a[1]);
                    return a[0] == 0 ? glass.floorOf((int) a[1]) : glass.choiceOf((int) a[1]);
            }
        } catch (Fault f) {
            return -1 - f.place;
        }
    }

    long houses(String name, long[] a) throws Finding {
        switch (name) {
            case "house": {
                range(a[0], 1000, 99999);
                range(a[0] / 100 % 10, 0, 1);
                range(a[0] / 10 % 10, 0, 1);
                cellOf(a[0] % 10);
                range(a[1], 1, 99999);
                ask(glass.houses.size() < 8, FULL);
                House h = new House();
                h.of = new long[] {a[0] % 10, a[0] / 1000, a[0] / 100 % 10, a[0] / 10 % 10, a[1]};
                glass.houses.add(h);
                return glass.houses.size() - 1;
            }
            case "houseOf": {
                House h = houseAt(a[0]);
                range(a[1], 0, 9);
                long[] sorted = h.balance.clone();
                Arrays.sort(sorted);
                return new long[] {h.of[0], h.of[1], h.of[2], h.of[3], h.of[4], h.hours, h.its(), sorted[0], sorted[1],
                    h.says}[(int) a[1]];
            }
            case "since": {
                House h = houseAt(a[0]);
                range(a[1], 0, 1);
                ask(h.says > a[1], NONE);
                return h.since[(int) a[1]];
            }
            case "order": {
                range(a[0], 0, Integer.MAX_VALUE);
                List<Integer> said = new ArrayList<>();
                for (int i = 0; i < glass.houses.size(); i++) {
                    if (glass.houses.get(i).says > 0) {
                        said.add(i);
                    }
                }
                said.sort((i, k) -> glass.houses.get(i).since[0] - glass.houses.get(k).since[0]);
                ask(a[0] < said.size(), NONE);
                return said.get((int) a[0]);
            }
            case "saying": {
                range(a[0], 0, 2);
                int set = 0;
                for (int i = 0; i < glass.houses.size(); i++) {
                    set += glass.houses.get(i).says == a[0] ? 1 << i : 0;
                }
                return set;
            }
            case "beside": {
                House h = houseAt(a[0]);
                House o = houseAt(a[1]);
                ask(a[0] != a[1], BEYOND);
                ask(h.hours > 0 && o.hours > 0, NONE);
                return Long.signum(h.its() * o.hours - o.its() * h.hours);
            }
            case "shared":
                return shared(a);
            case "line": {
                House h = houseAt(a[0]);
                range(a[1], 0, 999);
                int was = h.line;
                h.moved += h.shown && a[1] != was ? 1 : 0;
                h.line = (int) a[1];
                return was;
            }
            case "show": {
                House h = houseAt(a[0]);
                h.shown = true;
                return h.line;
            }
            default:
                return houseAt(a[0]).moved;
        }
    }

    long shared(long[] a) throws Finding {
        range(a[0], 0, 999999);
        houseAt(a[1]);
        List<Integer> who = new ArrayList<>();
        long all = 0;
        for (int i = 0; i < glass.houses.size(); i++) {
            House h = glass.houses.get(i);
            if (h.says == 1 && h.its() > 0) {
                who.add(i);
                all += h.its();
            }
        }
        ask(!who.isEmpty(), NONE);
        final long sum = all;
        long left = a[0];
        long[] gets = new long[8];
        for (int i : who) {
            gets[i] = a[0] * glass.houses.get(i).its() / sum;
            left -= gets[i];
        }
        who.sort((i, k) -> Long.compare(a[0] * glass.houses.get(k).its() % sum, a[0] * glass.houses.get(i).its() % sum));
        for (int i = 0; i < left; i++) {
            gets[who.get(i)]++;
        }
        return gets[(int) a[1]];
    }

    long wouldBe(String name, long[] a) throws Finding {
        if (name.equals("read")) {
            long[] numbers = sheetOf(a[0]);
            cellOf(a[1]);
            Glass g = glass.copy();
            for (int i = 0; i < numbers.length; i++) {
                g.hour();
                if (g.cells.get((int) a[1]).read() != numbers[i]) {
                    return i + 1;
                }
            }
            return 0;
        }
        cellOf(a[0]);
        int cell = (int) a[0];
        switch (name) {
            case "foretold": {
                lawOrNone(a[1]);
                range(a[2], 0, 100);
                range(a[3], 0, 4);
                Cell c = glass.after((int) a[1], (int) a[2]).cells.get(cell);
                return new int[] {c.heat, c.read(), c.latest[4], c.store, c.water}[(int) a[3]];
            }
            case "parted": {
                lawOrNone(a[1]);
                lawOrNone(a[2]);
                range(a[3], 1, 9999);
                Glass g = glass.after((int) a[1], 0);
                Glass o = glass.after((int) a[2], 0);
                for (int n = 1; n <= 50; n++) {
                    g.hour();
                    o.hour();
                    if (Math.abs(g.cells.get(cell).read() - o.cells.get(cell).read()) >= a[3]) {
                        return n;
                    }
                }
                throw new Finding(NONE);
            }
            case "look": {
                lawOrNone(a[1]);
                lawOrNone(a[2]);
                range(a[3], 1, 100);
                Cell c = glass.after((int) a[1], (int) a[3]).cells.get(cell);
                Cell o = glass.after((int) a[2], (int) a[3]).cells.get(cell);
                long[] apart = {Math.abs(c.read() - o.read()), Math.abs((long) c.latest[4] - o.latest[4]),
                    Math.abs(c.heat - o.heat)};
                int best = 0;
                for (int i = 1; i < 3; i++) {
                    best = apart[i] > apart[best] ? i : best;
                }
                ask(apart[best] > 0, NONE);
                return best;
            }
            case "must":
                range(a[1], 0, glass.laws.size() - 1);
                return glass.held((int) a[1], cell) * glass.rays.get((int) a[1]) / 100;
            case "barred": {
                range(a[1], 0, glass.laws.size() - 1);
                range(a[2], 0, 9999);
                long must = glass.held((int) a[1], cell) * glass.rays.get((int) a[1]) / 100;
                return (long) glass.cells.get(cell).latest[4] - glass.floorOf(cell) + a[2] < must ? 1 : 0;
            }
            case "night": {
                range(a[1], 0, 999999);
                Glass g = glass.copy();
                g.cells.get(cell).power = 0;
                int n = 0;
                while (n <= 200 && g.cells.get(cell).read() > a[1]) {
                    g.hour();
                    n++;
                }
                ask(n <= 200, NONE);
                return n;
            }
            default: {
                range(a[1], 0, 999999);
                range(a[2], 1, 20);
                for (int makes = 0; makes <= 300; makes++) {
                    Glass g = new Glass();
                    g.cells.add(glass.cells.get(cell).copy());
                    g.forced = makes;
                    for (int i = 0; i < a[2]; i++) {
                        g.hour();
                    }
                    if (g.cells.get(0).heat >= a[1]) {
                        return makes;
                    }
                }
                throw new Finding(NONE);
            }
        }
    }

    long sheetsAndImages(String name, long[] a) throws Finding {
        switch (name) {
            case "sheet":
                range(a[0], 0, 3);
                ask(a[1] == 0 || a[1] == 8 || a[1] == 16 || a[1] == 64, BEYOND);
                ask(a[2] >= 0, SIZE);
                range(a[2], 0, 40);
                sheets[(int) a[0]] = a[1] == 0 ? null : new long[(int) a[2]];
                bits[(int) a[0]] = (int) a[1];
                return a[1] == 0 ? 0 : a[2];
            case "write": {
                long[] numbers = sheetOf(a[0]);
                range(a[1], 0, numbers.length - 1);
                long was = numbers[(int) a[1]];
                numbers[(int) a[1]] = cut(a[2], bits[(int) a[0]]);
                return was;
            }
            case "copy": {
                range(a[0], 0, 3);
                range(a[2], 0, 3);
                long[] from = sheetOf(a[0]);
                long[] to = sheetOf(a[2]);
                ask(bits[(int) a[0]] == bits[(int) a[2]], KIND);
                ask(a[1] >= 0 && a[3] >= 0 && a[4] >= 0, BEYOND);
                ask(a[1] + a[4] <= from.length && a[3] + a[4] <= to.length, BEYOND);
                long[] were = from.clone();
                for (int i = 0; i < a[4]; i++) {
                    to[(int) a[3] + i] = were[(int) a[1] + i];
                }
                return a[4];
            }
            case "weeks": {
                long[] numbers = sheetOf(a[0]);
                Cell c = cellOf(a[1]);
                int went = 0;
                for (long v : numbers) {
                    if (v >= 0 && v <= 9999 && glass.now < 2000) {
                        c.power = (int) v;
                        glass.hour();
                        went++;
                    }
                }
                return went;
            }
            case "image":
                kept = glass.copy();
                return 1;
            case "undo":
                ask(kept != null, NONE);
                glass = kept.copy();
                return glass.now;
            case "tear": {
                int was = kept == null ? 0 : 1;
                kept = null;
                return was;
            }
            case "count": {
                range(a[0], 0, 6);
                int heat = glass.cells.stream().mapToInt(c -> c.heat).sum();
                return new int[] {glass.now, glass.cells.size(), glass.laws.size(), glass.houses.size(), glass.theLaw,
                    tape.length(), heat}[(int) a[0]];
            }
            default:
                range(a[0], -1, 6);
                return a[0] == -1 ? Arrays.stream(found).sum() : found[(int) a[0]];
        }
    }
}
