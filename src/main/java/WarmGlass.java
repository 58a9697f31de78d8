/** A glass that warms by itself; the numbered promises that it keeps stand in the document DOC.md. */
public final class WarmGlass {
    private static final int BEYOND = 0;
    private static final int FULL = 1;
    private static final int KIND = 2;
    private static final int NONE = 3;
    private static final int STATE = 4;
    private static final int MISSING = 5;
    private static final int SIZE = 6;
    private static final int FINDINGS = 7;
    private static final int FIRST_FINDING = -1000000001;

    private static final int NO_LAW = -1;
    private static final int NO_FAULT = -1;
    private static final int LAST_HOUR = 2000;
    private static final int MOST_CELLS = 8;
    private static final int MOST_LAWS = 6;
    private static final int MOST_HOUSES = 8;
    private static final int MOST_BYTES = 100;
    private static final int MOST_OPEN = 5;
    private static final int MOST_SHEETS = 4;
    private static final int MOST_NUMBERS = 40;
    private static final int MOST_POWER = 9999;
    private static final int MOST_WATER = 9999;
    private static final int MOST_MAKES = 9999;
    private static final int MOST_READ_NUMBER = 9999;
    private static final int FULL_STORE = 1000;
    private static final int LONGEST_PARTING = 50;
    private static final int LONGEST_NIGHT = 200;
    private static final int GREATEST_NEED = 300;

    private static final int A_CELL = 0;
    private static final int STIRRED = 1;
    private static final int BURNING = 2;
    private static final int STORING = 3;
    private static final int JACKET = 4;
    private static final int COUNTED = 5;
    private static final int KINDS = 6;
    private static final int UNDER_NONE = -1;
    private static final int[] UNDER = {UNDER_NONE, A_CELL, STIRRED, A_CELL, A_CELL, BURNING};

    private static final int SAYS_NOTHING = 0;
    private static final int SAYS_MORE = 1;
    private static final int TOOK_BACK = 2;

    // The code of a TEXT: 0 or more is a NUMBER, the rest is one of these, an F behind all that it works with.
    private static final int NAME_P = -1;
    private static final int NAME_T = -2;
    private static final int NAME_H = -3;
    private static final int NAME_C = -4;
    private static final int NAME_W = -5;
    private static final int F_SUM = -6;
    private static final int F_LESS = -7;
    private static final int F_MUL = -8;
    private static final int F_PART = -9;
    private static final int F_MIN = -10;
    private static final int F_MAX = -11;
    private static final int F_IF = -12;
    private static final int NO_WORD = -13;

    // A WORD as a number: its letters as bytes, the first one highest.
    private static final int LONGEST_WORD = 4;
    private static final int WORD_SUM = 's' << 16 | 'u' << 8 | 'm';
    private static final int WORD_LESS = 'l' << 24 | 'e' << 16 | 's' << 8 | 's';
    private static final int WORD_MUL = 'm' << 16 | 'u' << 8 | 'l';
    private static final int WORD_PART = 'p' << 24 | 'a' << 16 | 'r' << 8 | 't';
    private static final int WORD_MIN = 'm' << 16 | 'i' << 8 | 'n';
    private static final int WORD_MAX = 'm' << 16 | 'a' << 8 | 'x';
    private static final int WORD_IF = 'i' << 8 | 'f';

    private final World live = new World();
    private final World kept = new World();
    private boolean isKept = false;
    private final Tape tape = new Tape();
    private final Parser parser = new Parser();
    private final Sheet[] sheets = new Sheet[MOST_SHEETS];
    private final int[] found = new int[FINDINGS];
    // Trials are CELLS that go on by themselves, so that what would be leaves the true ones alone.
    private final Cell trial = new Cell();
    private final Cell otherTrial = new Cell();

    public WarmGlass() {
        for (int i = 0; i < sheets.length; i++) {
            sheets[i] = new Sheet();
        }
    }

    // ---- cells

    public int cell(int kind, int of, int gas, int water) {
        int mass = of / 1000000;
        int loss = of / 10000 % 100;
        if (!within(kind, 0, KINDS - 1) || of < 0 || !within(mass, 1, 99) || !within(loss, 1, 99)) {
            return finding(BEYOND);
        }
        if (!within(gas, 0, 100) || !within(water, 0, MOST_WATER)) {
            return finding(BEYOND);
        }
        Cell made = live.newCell();
        if (made == null) {
            return finding(FULL);
        }
        made.begin();
        made.kind = kind;
        made.mass = mass;
        made.loss = loss;
        made.power = of % 10000;
        made.gas = gas;
        made.water = water;
        return live.cellCount - 1;
    }

    public int power(int cell, int v) {
        Cell it = live.cellAt(cell);
        if (it == null || !within(v, 0, MOST_POWER)) {
            return finding(BEYOND);
        }
        int was = it.power;
        it.power = v;
        return was;
    }

    public int top(int cell, int n) {
        Cell it = live.cellAt(cell);
        if (it == null || !within(n, 1, MOST_WATER)) {
            return finding(BEYOND);
        }
        it.water = Math.min(MOST_WATER, it.water + n);
        return it.water;
    }

    public int hours(int n) {
        if (!within(n, 1, 100)) {
            return finding(BEYOND);
        }
        if (live.now + n > LAST_HOUR) {
            return finding(STATE);
        }
        for (int i = 0; i < n; i++) {
            live.passHour();
        }
        return live.now;
    }

    public int of(int cell, int what) {
        Cell it = live.cellAt(cell);
        if (it == null) {
            return finding(BEYOND);
        }
        switch (what) {
            case 0: return it.kind;
            case 1: return it.power;
            case 2: return it.loss;
            case 3: return it.mass;
            case 4: return it.gas;
            case 5: return it.water;
            case 6: return it.heat;
            case 7: return it.store;
            case 8: return it.warmth();
            case 9: return it.thermometer();
            default: return finding(BEYOND);
        }
    }

    public int latest(int cell, int what) {
        Cell it = live.cellAt(cell);
        if (it == null) {
            return finding(BEYOND);
        }
        switch (what) {
            case 0: return it.gives;
            case 1: return it.goes;
            case 2: return it.makes;
            case 3: return it.loses;
            case 4: return it.rays;
            default: return finding(BEYOND);
        }
    }

    public int ever(int cell, int what) {
        Cell it = live.cellAt(cell);
        if (it == null) {
            return finding(BEYOND);
        }
        switch (what) {
            case 0: return it.put;
            case 1: return it.gone;
            case 2: return it.made;
            case 3: return it.lost;
            default: return finding(BEYOND);
        }
    }

    public int as(int cell, int kind) {
        Cell it = live.cellAt(cell);
        if (it == null || !within(kind, 0, KINDS - 1)) {
            return finding(BEYOND);
        }
        if (!isUnder(it.kind, kind)) {
            return finding(KIND);
        }
        return it.thermometer();
    }

    // ---- texts

    public int feed(int bytes, int n) {
        if (!within(n, 1, 4)) {
            return finding(BEYOND);
        }
        if (tape.size + n > MOST_BYTES) {
            return finding(FULL);
        }
        for (int i = n - 1; i >= 0; i--) {
            tape.add(bytes >>> (8 * i));
        }
        return tape.size;
    }

    public int wipe() {
        int had = tape.size;
        tape.size = 0;
        return had;
    }

    public int law(int ray) {
        if (!within(ray, 0, 999)) {
            return finding(BEYOND);
        }
        if (live.lawCount >= MOST_LAWS) {
            return finding(FULL);
        }
        int fault = parser.faultOf(tape);
        if (fault != NO_FAULT) {
            return -1 - fault;
        }
        live.addLaw(new Law(parser.text(), ray));
        tape.size = 0;
        return live.lawCount - 1;
    }

    public int told(int use) {
        if (!within(use, 0, 1)) {
            return finding(BEYOND);
        }
        int fault = parser.faultOf(tape);
        if (fault != NO_FAULT) {
            return -1 - fault;
        }
        if (use == 0) {
            live.floor = parser.text();
        } else {
            live.choice = parser.text();
        }
        tape.size = 0;
        return 0;
    }

    public int force(int law) {
        if (!isLawOrNone(law)) {
            return finding(BEYOND);
        }
        int was = live.theLaw;
        live.theLaw = law;
        return was;
    }

    public int tells(int law, int cell) {
        Law it = live.lawAt(law);
        Cell whose = live.cellAt(cell);
        if (it == null || whose == null) {
            return finding(BEYOND);
        }
        return live.toldBy(it, whose, cell, live.now);
    }

    public int says(int use, int cell) {
        Cell whose = live.cellAt(cell);
        if (whose == null || !within(use, 0, 1)) {
            return finding(BEYOND);
        }
        return use == 0 ? live.floorOf(whose, cell, live.now) : live.choiceOf(whose, cell, live.now);
    }

    // ---- houses

    public int house(int of, int limit) {
        int loss = of / 1000;
        int gasBack = of / 100 % 10;
        int chooses = of / 10 % 10;
        int cell = of % 10;
        if (of < 0 || !within(loss, 1, 99) || gasBack > 1 || chooses > 1 || live.cellAt(cell) == null) {
            return finding(BEYOND);
        }
        if (!within(limit, 1, 99999)) {
            return finding(BEYOND);
        }
        House made = live.newHouse();
        if (made == null) {
            return finding(FULL);
        }
        made.begin();
        made.cell = cell;
        made.loss = loss;
        made.gasBack = gasBack;
        made.chooses = chooses;
        made.limit = limit;
        return live.houseCount - 1;
    }

    public long houseOf(int house, int what) {
        House it = live.houseAt(house);
        if (it == null) {
            return finding(BEYOND);
        }
        switch (what) {
            case 0: return it.cell;
            case 1: return it.loss;
            case 2: return it.gasBack;
            case 3: return it.chooses;
            case 4: return it.limit;
            case 5: return it.counted;
            case 6: return it.balance();
            case 7: return Math.min(it.balanceGone, it.balanceBack);
            case 8: return Math.max(it.balanceGone, it.balanceBack);
            case 9: return it.speech;
            default: return finding(BEYOND);
        }
    }

    public int since(int house, int what) {
        House it = live.houseAt(house);
        if (it == null || !within(what, 0, 1)) {
            return finding(BEYOND);
        }
        if (what == 0) {
            return it.speech == SAYS_NOTHING ? finding(NONE) : it.saidAt;
        }
        return it.speech == TOOK_BACK ? it.tookBackAt : finding(NONE);
    }

    public int order(int i) {
        if (i < 0) {
            return finding(BEYOND);
        }
        for (int h = 0; h < live.houseCount; h++) {
            if (live.placeInOrder(h) == i) {
                return h;
            }
        }
        return finding(NONE);
    }

    public int saying(int v) {
        if (!within(v, 0, 2)) {
            return finding(BEYOND);
        }
        int set = 0;
        for (int h = 0; h < live.houseCount; h++) {
            House it = live.houseAt(h);
            if (it != null && it.speech == v) {
                set |= 1 << h;
            }
        }
        return set;
    }

    public int beside(int a, int b) {
        House first = live.houseAt(a);
        House other = live.houseAt(b);
        if (first == null || other == null || a == b) {
            return finding(BEYOND);
        }
        if (first.counted == 0 || other.counted == 0) {
            return finding(NONE);
        }
        long more = first.balance() * other.counted - other.balance() * first.counted;
        if (more == 0) {
            return 0;
        }
        return more > 0 ? 1 : -1;
    }

    public int shared(int coins, int house) {
        if (!within(coins, 0, 999999) || live.houseAt(house) == null) {
            return finding(BEYOND);
        }
        long all = live.allShares();
        if (all <= 0) {
            return finding(NONE);
        }
        return live.coinsOf(house, coins, all);
    }

    public int line(int house, int v) {
        House it = live.houseAt(house);
        if (it == null || !within(v, 0, 999)) {
            return finding(BEYOND);
        }
        int was = it.drawnLine;
        if (it.wasShown && v != was) {
            it.timesMoved++;
        }
        it.drawnLine = v;
        return was;
    }

    public int show(int house) {
        House it = live.houseAt(house);
        if (it == null) {
            return finding(BEYOND);
        }
        it.wasShown = true;
        return it.drawnLine;
    }

    public int moved(int house) {
        House it = live.houseAt(house);
        return it == null ? finding(BEYOND) : it.timesMoved;
    }

    // ---- what would be

    public int foretold(int cell, int law, int n, int what) {
        Cell it = live.cellAt(cell);
        if (it == null || !isLawOrNone(law) || !within(n, 0, 100) || !within(what, 0, 4)) {
            return finding(BEYOND);
        }
        trial.take(it);
        live.foretell(trial, cell, law, n);
        switch (what) {
            case 0: return trial.heat;
            case 1: return trial.thermometer();
            case 2: return trial.rays;
            case 3: return trial.store;
            default: return trial.water;
        }
    }

    public int parted(int cell, int a, int b, int by) {
        Cell it = live.cellAt(cell);
        if (it == null || !isLawOrNone(a) || !isLawOrNone(b) || !within(by, 1, 9999)) {
            return finding(BEYOND);
        }
        trial.take(it);
        otherTrial.take(it);
        for (int n = 1; n <= LONGEST_PARTING; n++) {
            live.warm(trial, cell, a, live.now + n - 1);
            live.warm(otherTrial, cell, b, live.now + n - 1);
            if (Math.abs(trial.thermometer() - otherTrial.thermometer()) >= by) {
                return n;
            }
        }
        return finding(NONE);
    }

    public int look(int cell, int a, int b, int n) {
        Cell it = live.cellAt(cell);
        if (it == null || !isLawOrNone(a) || !isLawOrNone(b) || !within(n, 1, 100)) {
            return finding(BEYOND);
        }
        trial.take(it);
        otherTrial.take(it);
        live.foretell(trial, cell, a, n);
        live.foretell(otherTrial, cell, b, n);
        long byRead = apart(trial.thermometer(), otherTrial.thermometer());
        long byRays = apart(trial.rays, otherTrial.rays);
        long byHeat = apart(trial.heat, otherTrial.heat);
        long most = Math.max(byRead, Math.max(byRays, byHeat));
        if (most == 0) {
            return finding(NONE);
        }
        if (byRead == most) {
            return 0;
        }
        return byRays == most ? 1 : 2;
    }

    public int must(int cell, int law) {
        Cell it = live.cellAt(cell);
        if (it == null || live.lawAt(law) == null) {
            return finding(BEYOND);
        }
        return mustOf(it, cell, law);
    }

    public int barred(int cell, int law, int slip) {
        Cell it = live.cellAt(cell);
        if (it == null || live.lawAt(law) == null || !within(slip, 0, 9999)) {
            return finding(BEYOND);
        }
        long overFloor = (long) it.rays - live.floorOf(it, cell, live.now);
        return overFloor + slip < mustOf(it, cell, law) ? 1 : 0;
    }

    public int night(int cell, int read) {
        Cell it = live.cellAt(cell);
        if (it == null || !within(read, 0, 999999)) {
            return finding(BEYOND);
        }
        trial.take(it);
        trial.power = 0;
        for (int n = 0; n <= LONGEST_NIGHT; n++) {
            if (trial.thermometer() <= read) {
                return n;
            }
            live.warm(trial, cell, live.theLaw, live.now + n);
        }
        return finding(NONE);
    }

    public int need(int cell, int heat, int n) {
        Cell it = live.cellAt(cell);
        if (it == null || !within(heat, 0, 999999) || !within(n, 1, 20)) {
            return finding(BEYOND);
        }
        // What is lost goes by whole steps of WARMTH, so more MAKES can leave less HEAT: each one is tried.
        for (int makes = 0; makes <= GREATEST_NEED; makes++) {
            trial.take(it);
            for (int i = 0; i < n; i++) {
                trial.passHour(makes);
            }
            if (trial.heat >= heat) {
                return makes;
            }
        }
        return finding(NONE);
    }

    public int read(int s, int cell) {
        Sheet from = sheetAt(s);
        if (from == null) {
            return finding(BEYOND);
        }
        if (from.bits == 0) {
            return finding(MISSING);
        }
        Cell it = live.cellAt(cell);
        if (it == null) {
            return finding(BEYOND);
        }
        trial.take(it);
        for (int i = 0; i < from.size; i++) {
            live.warm(trial, cell, live.theLaw, live.now + i);
            if (from.numberAt(i) != trial.thermometer()) {
                return i + 1;
            }
        }
        return 0;
    }

    // ---- sheets

    public int sheet(int s, int bits, int n) {
        Sheet it = sheetAt(s);
        if (it == null || bits != 0 && bits != 8 && bits != 16 && bits != 64) {
            return finding(BEYOND);
        }
        if (n < 0) {
            return finding(SIZE);
        }
        if (n > MOST_NUMBERS) {
            return finding(BEYOND);
        }
        it.begin(bits, bits == 0 ? 0 : n);
        return it.size;
    }

    public long write(int s, int i, long v) {
        Sheet it = sheetAt(s);
        if (it == null) {
            return finding(BEYOND);
        }
        if (it.bits == 0) {
            return finding(MISSING);
        }
        if (!within(i, 0, it.size - 1)) {
            return finding(BEYOND);
        }
        long was = it.numberAt(i);
        it.put(i, v);
        return was;
    }

    public int copy(int s, int from, int t, int to, int n) {
        Sheet source = sheetAt(s);
        Sheet target = sheetAt(t);
        if (source == null || target == null) {
            return finding(BEYOND);
        }
        if (source.bits == 0 || target.bits == 0) {
            return finding(MISSING);
        }
        if (source.bits != target.bits) {
            return finding(KIND);
        }
        if (!source.has(from, n) || !target.has(to, n)) {
            return finding(BEYOND);
        }
        System.arraycopy(source.numbers, from, target.numbers, to, n);
        return n;
    }

    public int weeks(int s, int cell) {
        Sheet from = sheetAt(s);
        if (from == null) {
            return finding(BEYOND);
        }
        if (from.bits == 0) {
            return finding(MISSING);
        }
        Cell it = live.cellAt(cell);
        if (it == null) {
            return finding(BEYOND);
        }
        int went = 0;
        for (int i = 0; i < from.size && live.now < LAST_HOUR; i++) {
            long v = from.numberAt(i);
            if (v >= 0 && v <= MOST_POWER) {
                it.power = (int) v;
                live.passHour();
                went++;
            }
        }
        return went;
    }

    // ---- images

    public int image() {
        kept.take(live);
        isKept = true;
        return 1;
    }

    public int undo() {
        if (!isKept) {
            return finding(NONE);
        }
        live.take(kept);
        return live.now;
    }

    public int tear() {
        int was = isKept ? 1 : 0;
        isKept = false;
        return was;
    }

    public int count(int what) {
        switch (what) {
            case 0: return live.now;
            case 1: return live.cellCount;
            case 2: return live.lawCount;
            case 3: return live.houseCount;
            case 4: return live.theLaw;
            case 5: return tape.size;
            case 6: return live.allHeat();
            default: return finding(BEYOND);
        }
    }

    public int status(int which) {
        if (!within(which, -1, FINDINGS - 1)) {
            return finding(BEYOND);
        }
        int all = 0;
        for (int i = 0; i < found.length; i++) {
            if (which == -1 || which == i) {
                all += found[i];
            }
        }
        return all;
    }

    private int finding(int which) {
        if (which >= 0 && which < found.length) {
            found[which]++;
        }
        return FIRST_FINDING - which;
    }

    private boolean isLawOrNone(int law) {
        return law == NO_LAW || live.lawAt(law) != null;
    }

    private int mustOf(Cell cell, int number, int law) {
        return live.raysOverFloor(live.makesBy(law, cell, number, live.now), law);
    }

    private Sheet sheetAt(int s) {
        return s < 0 || s >= sheets.length ? null : sheets[s];
    }

    private static boolean within(int v, int least, int most) {
        return v >= least && v <= most;
    }

    private static boolean isUnder(int kind, int above) {
        int at = kind;
        for (int i = 0; i < KINDS && at >= 0 && at < UNDER.length; i++) {
            if (at == above) {
                return true;
            }
            at = UNDER[at];
        }
        return false;
    }

    private static long apart(int a, int b) {
        return Math.abs((long) a - b);
    }

    /** A CELL of a KIND, and how an HOUR goes in it. */
    private static final class Cell {
        int kind;
        int power;
        int loss;
        int mass;
        int gas;
        int water;
        int heat;
        int store;
        int gives;
        int goes;
        int makes;
        int loses;
        int rays;
        int put;
        int gone;
        int made;
        int lost;

        void begin() {
            heat = 0;
            store = 0;
            gives = 0;
            goes = 0;
            makes = 0;
            loses = 0;
            rays = 0;
            put = 0;
            gone = 0;
            made = 0;
            lost = 0;
        }

        void take(Cell other) {
            kind = other.kind;
            power = other.power;
            loss = other.loss;
            mass = other.mass;
            gas = other.gas;
            water = other.water;
            heat = other.heat;
            store = other.store;
            gives = other.gives;
            goes = other.goes;
            makes = other.makes;
            loses = other.loses;
            rays = other.rays;
            put = other.put;
            gone = other.gone;
            made = other.made;
            lost = other.lost;
        }

        int powerThatCounts() {
            return water == 0 ? 0 : power;
        }

        int gasFrom(int counted) {
            return counted * gas / 100;
        }

        int warmth() {
            return mass == 0 ? 0 : heat / mass;
        }

        int thermometer() {
            int told = warmth();
            switch (kind) {
                case STIRRED:
                case BURNING:
                    return told + told / 10;
                case COUNTED:
                    return told + told / 10 + 1;
                case JACKET:
                    return told / 2 + 5;
                default:
                    return told;
            }
        }

        private int backOf(int gasOfIt) {
            switch (kind) {
                case BURNING:
                    return gasOfIt / 2;
                case COUNTED:
                    return gasOfIt / 2 + gasOfIt / 10;
                default:
                    return 0;
            }
        }

        /** What of that which stays goes to HEAT in this HOUR; a STORING one lays its fifth by. */
        private int toHeat(int stays) {
            if (kind != STORING) {
                return stays;
            }
            int fifth = stays / 5;
            store += fifth;
            if (store < FULL_STORE) {
                return stays - fifth;
            }
            int all = store;
            store = 0;
            return stays - fifth + all;
        }

        /** RAYS are left as they were: they need FLOOR, which the CELL doesn't know. */
        void passHour(int toMake) {
            gives = powerThatCounts();
            int gasOfIt = gasFrom(gives);
            goes = gasOfIt - backOf(gasOfIt);
            water = Math.max(0, water - (gasOfIt + 99) / 100);
            makes = toMake;
            heat += toHeat(gives - goes) + makes;
            loses = Math.min(heat, warmth() * loss);
            heat -= loses;
            put += gives;
            gone += goes;
            made += makes;
            lost += loses;
        }
    }

    /** A HOUSE: what it believes, what it counted, what it says, and its line. */
    private static final class House {
        int cell;
        int loss;
        int gasBack;
        int chooses;
        int limit;
        int counted;
        long balanceGone;
        long balanceBack;
        int speech;
        int saidAt;
        int tookBackAt;
        int drawnLine;
        boolean wasShown;
        int timesMoved;

        void begin() {
            counted = 0;
            balanceGone = 0;
            balanceBack = 0;
            speech = SAYS_NOTHING;
            saidAt = 0;
            tookBackAt = 0;
            drawnLine = 0;
            wasShown = false;
            timesMoved = 0;
        }

        void take(House other) {
            cell = other.cell;
            loss = other.loss;
            gasBack = other.gasBack;
            chooses = other.chooses;
            limit = other.limit;
            counted = other.counted;
            balanceGone = other.balanceGone;
            balanceBack = other.balanceBack;
            speech = other.speech;
            saidAt = other.saidAt;
            tookBackAt = other.tookBackAt;
            drawnLine = other.drawnLine;
            wasShown = other.wasShown;
            timesMoved = other.timesMoved;
        }

        long balance() {
            return gasBack == 1 ? balanceBack : balanceGone;
        }

        /** What weighs when coins are shared. */
        long share() {
            return speech == SAYS_MORE ? Math.max(0L, balance()) : 0L;
        }

        boolean isBefore(House other) {
            return saidAt < other.saidAt;
        }

        void addHour(Cell of) {
            long believed = (long) of.thermometer() * loss;
            counted++;
            balanceGone += believed - (of.gives - of.gasFrom(of.gives));
            balanceBack += believed - of.gives;
        }

        void speak(int hour) {
            if (speech == SAYS_NOTHING && balance() >= limit) {
                speech = SAYS_MORE;
                saidAt = hour;
            } else if (speech == SAYS_MORE && balance() <= 0) {
                speech = TOOK_BACK;
                tookBackAt = hour;
            }
        }
    }

    /** A TEXT without FAULT, as code; it never changes, so images may hold the same one. */
    private static final class Text {
        final int[] code;

        Text(int[] code) {
            this.code = code;
        }
    }

    private static final class Law {
        final Text text;
        final int ray;

        Law(Text text, int ray) {
            this.text = text;
            this.ray = ray;
        }
    }

    /** All that sections 1 to 3 of the document tell, THE TAPE not: what an image keeps. */
    private static final class World {
        int now = 0;
        int cellCount = 0;
        int lawCount = 0;
        int houseCount = 0;
        int theLaw = NO_LAW;
        Text floor = null;
        Text choice = null;
        private final Cell[] cells = new Cell[MOST_CELLS];
        private final Law[] laws = new Law[MOST_LAWS];
        private final House[] houses = new House[MOST_HOUSES];
        private final Worker worker = new Worker();

        World() {
            for (int i = 0; i < cells.length; i++) {
                cells[i] = new Cell();
            }
            for (int i = 0; i < houses.length; i++) {
                houses[i] = new House();
            }
        }

        void take(World other) {
            now = other.now;
            cellCount = other.cellCount;
            lawCount = other.lawCount;
            houseCount = other.houseCount;
            theLaw = other.theLaw;
            floor = other.floor;
            choice = other.choice;
            for (int i = 0; i < cellCount; i++) {
                Cell own = cellAt(i);
                Cell its = other.cellAt(i);
                if (own != null && its != null) {
                    own.take(its);
                }
            }
            for (int i = 0; i < lawCount && i < laws.length; i++) {
                laws[i] = other.lawAt(i);
            }
            for (int i = 0; i < houseCount; i++) {
                House own = houseAt(i);
                House its = other.houseAt(i);
                if (own != null && its != null) {
                    own.take(its);
                }
            }
        }

        Cell cellAt(int i) {
            return i < 0 || i >= cellCount || i >= cells.length ? null : cells[i];
        }

        Law lawAt(int i) {
            return i < 0 || i >= lawCount || i >= laws.length ? null : laws[i];
        }

        House houseAt(int i) {
            return i < 0 || i >= houseCount || i >= houses.length ? null : houses[i];
        }

        /** The row of a new CELL, or null if there is none left. */
        Cell newCell() {
            if (cellCount >= MOST_CELLS) {
                return null;
            }
            cellCount++;
            return cellAt(cellCount - 1);
        }

        /** The row of a new HOUSE, or null if there is none left. */
        House newHouse() {
            if (houseCount >= MOST_HOUSES) {
                return null;
            }
            houseCount++;
            return houseAt(houseCount - 1);
        }

        void addLaw(Law law) {
            if (lawCount >= 0 && lawCount < laws.length) {
                laws[lawCount] = law;
                lawCount++;
            }
        }

        int floorOf(Cell cell, int number, int hour) {
            return floor == null ? 0 : worker.worked(floor, cell, cell.warmth(), hour, number);
        }

        int choiceOf(Cell cell, int number, int hour) {
            return choice == null ? 1 : worker.worked(choice, cell, cell.thermometer(), hour, number);
        }

        /** What a LAW tells of a CELL, not held. */
        int toldBy(Law law, Cell cell, int number, int hour) {
            return worker.worked(law.text, cell, cell.warmth(), hour, number);
        }

        /** What a LAW tells of a CELL, held to 0 to 9999; without a LAW 0. */
        int makesBy(int law, Cell cell, int number, int hour) {
            Law by = lawAt(law);
            if (by == null) {
                return 0;
            }
            int tells = worker.worked(by.text, cell, cell.warmth(), hour, number);
            return Math.max(0, Math.min(MOST_MAKES, tells));
        }

        int raysOverFloor(int makes, int law) {
            Law by = lawAt(law);
            return by == null ? 0 : makes * by.ray / 100;
        }

        /** An HOUR goes in a CELL by a LAW, but for its RAYS. */
        void warm(Cell cell, int number, int law, int hour) {
            cell.passHour(makesBy(law, cell, number, hour));
        }

        private void shine(Cell cell, int number, int law, int hour) {
            cell.rays = floorOf(cell, number, hour) + raysOverFloor(cell.makes, law);
        }

        /** Takes a trial n HOURS on; RAYS are of the latest HOUR alone, so only that one is looked at for them. */
        void foretell(Cell of, int number, int law, int n) {
            for (int i = 0; i < n; i++) {
                warm(of, number, law, now + i);
            }
            if (n > 0) {
                shine(of, number, law, now + n - 1);
            }
        }

        void passHour() {
            for (int i = 0; i < cellCount; i++) {
                Cell cell = cellAt(i);
                if (cell != null) {
                    warm(cell, i, theLaw, now);
                    shine(cell, i, theLaw, now);
                }
            }
            for (int i = 0; i < houseCount; i++) {
                House house = houseAt(i);
                if (house != null) {
                    passHourOf(house);
                }
            }
            now++;
        }

        private void passHourOf(House house) {
            Cell cell = cellAt(house.cell);
            if (cell != null && (house.chooses == 0 || choiceOf(cell, house.cell, now) != 0)) {
                house.addHour(cell);
            }
            house.speak(now);
        }

        int allHeat() {
            int all = 0;
            for (int i = 0; i < cellCount; i++) {
                Cell cell = cellAt(i);
                all += cell == null ? 0 : cell.heat;
            }
            return all;
        }

        /** The place of a HOUSE in ORDER, or -1 if it never said MORE. */
        int placeInOrder(int number) {
            House it = houseAt(number);
            if (it == null || it.speech == SAYS_NOTHING) {
                return -1;
            }
            int before = 0;
            for (int i = 0; i < houseCount; i++) {
                House other = houseAt(i);
                if (other != null && other.speech != SAYS_NOTHING
                        && (other.isBefore(it) || i < number && !it.isBefore(other))) {
                    before++;
                }
            }
            return before;
        }

        long allShares() {
            long all = 0;
            for (int i = 0; i < houseCount; i++) {
                all += shareOf(i);
            }
            return all;
        }

        private long shareOf(int number) {
            House it = houseAt(number);
            return it == null ? 0 : it.share();
        }

        /** The COINS of a HOUSE: its cut part, and one more if its rest is among the greatest of those left. */
        int coinsOf(int number, int coins, long all) {
            long own = shareOf(number);
            if (own <= 0 || all <= 0) {
                return 0;
            }
            long part = coins * own / all;
            long rest = coins * own % all;
            long left = coins;
            long before = 0;
            for (int i = 0; i < houseCount; i++) {
                long others = coins * shareOf(i);
                left -= others / all;
                if (others % all > rest || i < number && others % all == rest && shareOf(i) > 0) {
                    before++;
                }
            }
            return (int) (before < left ? part + 1 : part);
        }
    }

    /** Works the code of a TEXT with what it sees of a CELL. */
    private static final class Worker {
        private int p = 0;
        private int t = 0;
        private int h = 0;
        private int c = 0;
        private int w = 0;
        // Two may wait at each ( that is open, and three stand there at the innermost one.
        private final int[] waiting = new int[2 * MOST_OPEN + 3];
        private int size = 0;

        /** What a TEXT is of a CELL; its WARMTH is told, since CHOICE takes READ in its place. */
        int worked(Text text, Cell cell, int warmth, int hour, int number) {
            p = cell.powerThatCounts();
            t = warmth;
            h = hour;
            c = number;
            w = cell.water;
            size = 0;
            int[] code = text.code;
            for (int i = 0; i < code.length; i++) {
                push(code[i] >= NAME_W ? valueOf(code[i]) : resultOf(code[i]));
            }
            return pop();
        }

        private int valueOf(int one) {
            switch (one) {
                case NAME_P: return p;
                case NAME_T: return t;
                case NAME_H: return h;
                case NAME_C: return c;
                case NAME_W: return w;
                default: return one;
            }
        }

        private int resultOf(int f) {
            int last = pop();
            int first = pop();
            switch (f) {
                case F_SUM: return first + last;
                case F_LESS: return first - last;
                case F_MUL: return first * last;
                case F_PART: return last == 0 ? 0 : first / last;
                case F_MIN: return Math.min(first, last);
                case F_MAX: return Math.max(first, last);
                default: return pop() == 0 ? last : first;
            }
        }

        private void push(int v) {
            if (size >= 0 && size < waiting.length) {
                waiting[size] = v;
                size++;
            }
        }

        private int pop() {
            if (size < 1 || size > waiting.length) {
                return 0;
            }
            size--;
            return waiting[size];
        }
    }

    /** THE TAPE. */
    private static final class Tape {
        private final byte[] bytes = new byte[MOST_BYTES];
        int size = 0;

        void add(int lowest) {
            if (size >= 0 && size < bytes.length) {
                bytes[size] = (byte) lowest;
                size++;
            }
        }

        /** The byte (0 to 255) at a place, or -1 where there is none. */
        int byteAt(int place) {
            return place < 0 || place >= size || place >= bytes.length ? -1 : bytes[place] & 255;
        }
    }

    /** Reads THE TAPE, TOKEN by TOKEN, as a TEXT, and tells its FAULT. */
    private static final class Parser {
        private static final int AWAITS_E = 0;
        private static final int AWAITS_OPEN = 1;
        private static final int AWAITS_NO_E = 2;

        private final int[] code = new int[MOST_BYTES];
        private int codeSize = 0;
        private final int[] openF = new int[MOST_OPEN];
        private final int[] commasDue = new int[MOST_OPEN];
        private int open = 0;
        private int awaits = AWAITS_E;
        private int pendingF = 0;
        private int place = 0;

        /** The FAULT, or NO_FAULT: then text() is the TEXT. */
        int faultOf(Tape tape) {
            codeSize = 0;
            open = 0;
            awaits = AWAITS_E;
            place = 0;
            for (int tokens = 0; tokens <= MOST_BYTES; tokens++) {
                skipBlanks(tape);
                if (place >= tape.size) {
                    break;
                }
                int first = place;
                if (!takesToken(tape)) {
                    return first;
                }
            }
            return awaits == AWAITS_NO_E && open == 0 ? NO_FAULT : tape.size;
        }

        Text text() {
            int[] own = new int[Math.max(0, codeSize)];
            for (int i = 0; i < own.length && i < code.length; i++) {
                own[i] = code[i];
            }
            return new Text(own);
        }

        private void skipBlanks(Tape tape) {
            for (int i = 0; i < MOST_BYTES && tape.byteAt(place) == ' '; i++) {
                place++;
            }
        }

        private boolean takesToken(Tape tape) {
            int first = tape.byteAt(place);
            if (isLetter(first)) {
                return takesWord(nextWord(tape));
            }
            if (isDigit(first)) {
                return takesNumber(nextNumber(tape));
            }
            place++;
            switch (first) {
                case '(': return takesOpen();
                case ',': return takesComma();
                case ')': return takesClose();
                default: return false;
            }
        }

        /** The code of the WORD that begins here; place is behind it then. */
        private int nextWord(Tape tape) {
            int word = 0;
            int letters = 0;
            while (letters < MOST_BYTES && isLetter(tape.byteAt(place))) {
                word = word << 8 | tape.byteAt(place);
                letters++;
                place++;
            }
            return letters > LONGEST_WORD ? NO_WORD : codeOf(word);
        }

        /** The NUMBER that begins here, one that is too great as one more than the greatest; place is behind it then. */
        private int nextNumber(Tape tape) {
            int number = 0;
            for (int i = 0; i < MOST_BYTES && isDigit(tape.byteAt(place)); i++) {
                number = Math.min(MOST_READ_NUMBER + 1, number * 10 + tape.byteAt(place) - '0');
                place++;
            }
            return number;
        }

        private boolean takesWord(int word) {
            if (awaits != AWAITS_E || word == NO_WORD) {
                return false;
            }
            if (word >= NAME_W) {
                emit(word);
                awaits = AWAITS_NO_E;
            } else {
                pendingF = word;
                awaits = AWAITS_OPEN;
            }
            return true;
        }

        private boolean takesNumber(int number) {
            if (awaits != AWAITS_E || number > MOST_READ_NUMBER) {
                return false;
            }
            emit(number);
            awaits = AWAITS_NO_E;
            return true;
        }

        private boolean takesOpen() {
            if (awaits != AWAITS_OPEN || open < 0 || open >= openF.length || open >= commasDue.length) {
                return false;
            }
            openF[open] = pendingF;
            commasDue[open] = pendingF == F_IF ? 2 : 1;
            open++;
            awaits = AWAITS_E;
            return true;
        }

        private boolean takesComma() {
            int inner = open - 1;
            if (awaits != AWAITS_NO_E || inner < 0 || inner >= commasDue.length || commasDue[inner] == 0) {
                return false;
            }
            commasDue[inner]--;
            awaits = AWAITS_E;
            return true;
        }

        private boolean takesClose() {
            int inner = open - 1;
            if (awaits != AWAITS_NO_E || inner < 0 || inner >= openF.length || inner >= commasDue.length) {
                return false;
            }
            if (commasDue[inner] != 0) {
                return false;
            }
            emit(openF[inner]);
            open = inner;
            return true;
        }

        private void emit(int one) {
            if (codeSize >= 0 && codeSize < code.length) {
                code[codeSize] = one;
                codeSize++;
            }
        }

        private static int codeOf(int word) {
            switch (word) {
                case 'p': return NAME_P;
                case 't': return NAME_T;
                case 'h': return NAME_H;
                case 'c': return NAME_C;
                case 'w': return NAME_W;
                case WORD_SUM: return F_SUM;
                case WORD_LESS: return F_LESS;
                case WORD_MUL: return F_MUL;
                case WORD_PART: return F_PART;
                case WORD_MIN: return F_MIN;
                case WORD_MAX: return F_MAX;
                case WORD_IF: return F_IF;
                default: return NO_WORD;
            }
        }

        private static boolean isLetter(int b) {
            return b >= 'a' && b <= 'z';
        }

        private static boolean isDigit(int b) {
            return b >= '0' && b <= '9';
        }
    }

    /** A SHEET; with 0 bits it is MISSING. Its numbers have their sign, as byte, short and long do. */
    private static final class Sheet {
        int bits = 0;
        int size = 0;
        private final long[] numbers = new long[MOST_NUMBERS];

        void begin(int newBits, int newSize) {
            bits = newBits;
            size = Math.max(0, Math.min(numbers.length, newSize));
            for (int i = 0; i < numbers.length; i++) {
                numbers[i] = 0;
            }
        }

        boolean has(int from, int n) {
            return from >= 0 && n >= 0 && (long) from + n <= size;
        }

        long numberAt(int i) {
            return i < 0 || i >= size || i >= numbers.length ? 0 : numbers[i];
        }

        void put(int i, long v) {
            if (i >= 0 && i < size && i < numbers.length) {
                numbers[i] = lowest(v);
            }
        }

        private long lowest(long v) {
            switch (bits) {
                case 8: return (byte) v;
                case 16: return (short) v;
                default: return v;
            }
        }
    }
}
