import java.lang.reflect.Method;
import java.util.ArrayList;
import java.util.Arrays;
import java.util.Comparator;
import java.util.List;
import java.util.Random;

/** All promises: runs of 512 calls by fixed seeds, each answer held against the model's. */
public final class AgainstModelTest {
    private static final int RUNS = 600;
    private static final int CALLS = 512;
    private static final String[] WORDS = {"p", "t", "h", "c", "w", "sum", "less", "mul", "part", "min", "max", "if"};

    /** Numbers at which something of the document begins or ends, and those beside them. */
    private static final int[] EDGES = {
        Integer.MIN_VALUE, -1000000001, -1000, -2, -1, 0, 1, 2, 3, 4, 5, 6, 7, 8, 9, 10, 11, 16, 20, 21, 32, 39, 40, 41, 49,
        50, 51, 64, 98, 99, 100, 101, 199, 200, 201, 299, 300, 301, 998, 999, 1000, 1001, 1008, 1110, 1111, 1999, 2000, 2001,
        9998, 9999, 10000, 99111, 99117, 99998, 99999, 100000, 999998, 999999, 1000000, 1009999, 1010000, 1019999, 99009999,
        99010000, 99999999, 100000000, 100010000, Integer.MAX_VALUE
    };

    private final Random random;
    private final boolean atEdges;
    private final WarmGlass program = new WarmGlass();
    private final Model model = new Model();
    private final List<String> told = new ArrayList<>();
    private int calls = 0;

    private AgainstModelTest(long seed) {
        random = new Random(seed);
        atEdges = seed % 3 == 1;
    }

    public static void main(String[] args) throws Exception {
        Method[] face = WarmGlass.class.getDeclaredMethods();
        face = Arrays.stream(face).filter(m -> java.lang.reflect.Modifier.isPublic(m.getModifiers()))
            .sorted(Comparator.comparing(Method::getName)).toArray(Method[]::new);
        Check.due("methods of the face", face.length, 42);
        for (int run = 0; run < RUNS; run++) {
            if (!new AgainstModelTest(run).run(face, run)) {
                break;
            }
        }
        Check.end();
    }

    private boolean run(Method[] face, int run) throws Exception {
        boolean good = true;
        if (run % 10 != 0) {
            good = prepare(face);
        }
        while (good && calls < CALLS) {
            int pick = random.nextInt(20);
            if (pick == 0 && calls < CALLS - 30) {
                good = feedText(face);
            } else if (pick <= 2) {
                good = call(face, method(face, "hours"), 1 + random.nextInt(random.nextInt(4) == 0 ? 100 : 5));
            } else {
                good = randomCall(face, face[random.nextInt(face.length)]);
            }
        }
        if (!good) {
            Check.wrong("run " + run + ": " + String.join("\n", told));
        }
        return good;
    }

    private static Method method(Method[] face, String name) {
        for (Method m : face) {
            if (m.getName().equals(name)) {
                return m;
            }
        }
        throw new IllegalArgumentException(name);
    }

    private boolean prepare(Method[] face) throws Exception {
        boolean good = true;
        for (int i = 0; good && i < 4; i++) {
            good = randomCall(face, method(face, "cell"));
        }
        for (int i = 0; good && i < 5; i++) {
            good = randomCall(face, method(face, "house"));
        }
        for (int i = 0; good && i < 4; i++) {
            good = feedText(face);
        }
        return good;
    }

    private boolean call(Method[] face, Method m, long... a) throws Exception {
        calls++;
        Object[] own = new Object[a.length];
        for (int i = 0; i < a.length; i++) {
            own[i] = m.getParameterTypes()[i] == int.class ? (Object) (int) a[i] : (Object) a[i];
        }
        long got = ((Number) m.invoke(program, own)).longValue();
        long want = model.call(m.getName(), a);
        String row = m.getName() + Arrays.toString(a) + " = " + got;
        told.add(row);
        Check.due("call " + calls + ": " + row, got, want);
        return got == want;
    }

    private boolean feedText(Method[] face) throws Exception {
        String text = random.nextInt(25) == 0 ? noise() : expression(random.nextInt(random.nextInt(9) == 0 ? 7 : 4));
        if (random.nextInt(12) == 0) {
            int at = random.nextInt(text.length());
            text = text.substring(0, at) + (char) ("(),; 9apx\u00e9".charAt(random.nextInt(10))) + text.substring(at);
        }
        if (random.nextInt(12) == 0) {
            int at = random.nextInt(text.length());
            text = text.substring(0, at) + text.substring(at + 1);
        }
        boolean good = call(face, method(face, "wipe"));
        for (int i = 0; good && i < text.length() && i < 100; i += 4) {
            int n = Math.min(4, text.length() - i);
            int bytes = random.nextInt();
            for (int k = 0; k < n; k++) {
                bytes = bytes << 8 | text.charAt(i + k);
            }
            good = call(face, method(face, "feed"), bytes, n);
        }
        if (!good) {
            return false;
        }
        return random.nextInt(3) == 0 ? call(face, method(face, "told"), random.nextInt(2))
            : call(face, method(face, "law"), random.nextInt(1000));
    }

    private String noise() {
        StringBuilder s = new StringBuilder(" ");
        for (int i = random.nextInt(12); i >= 0; i--) {
            int pick = random.nextInt(WORDS.length + 8);
            s.append(pick < WORDS.length ? WORDS[pick] : String.valueOf("(),  7\0z".charAt(pick - WORDS.length)));
        }
        return s.toString();
    }

    private String blank() {
        return random.nextInt(30) == 0 ? " " : "";
    }

    private String expression(int depth) {
        if (depth == 0 || random.nextInt(6) == 0) {
            return random.nextInt(3) == 0 ? String.valueOf(random.nextInt(random.nextInt(30) == 0 ? 10500 : 500))
                : WORDS[random.nextInt(5)];
        }
        String f = WORDS[5 + random.nextInt(7)];
        StringBuilder s = new StringBuilder(f).append(blank()).append('(').append(blank());
        for (int i = f.equals("if") ? 2 : 1; i >= 0; i--) {
            s.append(expression(random.nextInt(depth)));
            s.append(blank()).append(i == 0 ? ")" : ",").append(blank());
        }
        return s.toString();
    }

    private boolean randomCall(Method[] face, Method m) throws Exception {
        long[] a = arguments(m.getName());
        if (a.length > 0 && random.nextInt(atEdges ? 2 : 25) == 0) {
            a[random.nextInt(a.length)] = random.nextInt(9) == 0 ? random.nextInt() : EDGES[random.nextInt(EDGES.length)];
        }
        return call(face, m, a);
    }

    private int upTo(int n) {
        return random.nextInt(n);
    }

    private int aCell() {
        return upTo(Math.max(1, model.glass.cells.size() + (upTo(20) == 0 ? 1 : 0)));
    }

    private int aHouse() {
        return upTo(Math.max(1, model.glass.houses.size() + (upTo(20) == 0 ? 1 : 0)));
    }

    private int aLaw() {
        return upTo(model.glass.laws.size() + 1) - 1;
    }

    private int someLimit() {
        return 1 + upTo(upTo(3) == 0 ? 99999 : upTo(2) == 0 ? 3000 : 100);
    }

    private int someOf() {
        int mass = 1 + upTo(upTo(2) == 0 ? 99 : 12);
        int loss = 1 + upTo(upTo(3) == 0 ? 99 : mass);
        return mass * 1000000 + loss * 10000 + upTo(upTo(2) == 0 ? 10000 : 300);
    }

    private long[] arguments(String name) {
        switch (name) {
            case "cell": return new long[] {upTo(6), someOf(), upTo(101), upTo(upTo(2) == 0 ? 10000 : 50)};
            case "power": return new long[] {aCell(), upTo(upTo(2) == 0 ? 10000 : 300)};
            case "top": return new long[] {aCell(), 1 + upTo(upTo(2) == 0 ? 9999 : 20)};
            case "hours": return new long[] {1 + upTo(9)};
            case "of": return new long[] {aCell(), upTo(10)};
            case "latest": return new long[] {aCell(), upTo(5)};
            case "ever": return new long[] {aCell(), upTo(4)};
            case "as": return new long[] {aCell(), upTo(6)};
            case "feed": return new long[] {random.nextInt(), 1 + upTo(4)};
            case "law": return new long[] {upTo(1000)};
            case "told": return new long[] {upTo(2)};
            case "force": return new long[] {aLaw()};
            case "tells": return new long[] {aLaw(), aCell()};
            case "says": return new long[] {upTo(2), aCell()};
            case "house": return new long[] {
                1000 * (1 + upTo(99)) + 100 * upTo(2) + 10 * upTo(2) + aCell(), someLimit()};
            case "houseOf": return new long[] {aHouse(), upTo(10)};
            case "since": return new long[] {aHouse(), upTo(2)};
            case "order": return new long[] {upTo(5)};
            case "saying": return new long[] {upTo(3)};
            case "beside": return new long[] {aHouse(), aHouse()};
            case "shared": return new long[] {upTo(upTo(2) == 0 ? 1000000 : 100), aHouse()};
            case "line": return new long[] {aHouse(), upTo(4)};
            case "show": case "moved": return new long[] {aHouse()};
            case "status": return new long[] {upTo(9) - 1};
            case "count": return new long[] {upTo(8)};
            default: return moreArguments(name);
        }
    }

    private long[] moreArguments(String name) {
        switch (name) {
            case "foretold": return new long[] {aCell(), aLaw(), upTo(upTo(2) == 0 ? 101 : 4), upTo(5)};
            case "parted": return new long[] {aCell(), aLaw(), aLaw(), 1 + upTo(upTo(3) == 0 ? 9999 : 20)};
            case "look": return new long[] {aCell(), aLaw(), aLaw(), 1 + upTo(upTo(3) == 0 ? 100 : 4)};
            case "must": return new long[] {aCell(), aLaw()};
            case "barred": return new long[] {aCell(), aLaw(), upTo(upTo(2) == 0 ? 10000 : 50)};
            case "night": return new long[] {aCell(), nearRead()};
            case "need": return needed();
            case "read": return new long[] {upTo(4), aCell()};
            case "sheet": return new long[] {upTo(4), new int[] {8, 16, 64, 64, 8, 16, 0}[upTo(7)], upTo(6) - upTo(2)};
            case "write": return new long[] {upTo(4), upTo(5), someNumber()};
            case "copy": return new long[] {upTo(4), upTo(4), upTo(4), upTo(4), upTo(4)};
            case "weeks": return new long[] {upTo(4), aCell()};
            default: return new long[0];
        }
    }

    private long nearRead() {
        int cell = aCell();
        int read = cell < model.glass.cells.size() ? model.glass.cells.get(cell).read() : 0;
        return upTo(3) == 0 ? upTo(1000000) : upTo(read + 3);
    }

    private long[] needed() {
        int cell = aCell();
        int heat = cell < model.glass.cells.size() ? model.glass.cells.get(cell).heat : 0;
        return new long[] {cell, upTo(6) == 0 ? upTo(1000000) : upTo(2 * heat + 200), 1 + upTo(20)};
    }

    private long someNumber() {
        switch (upTo(6)) {
            case 0: return random.nextLong();
            case 1: return random.nextInt();
            case 2: return upTo(200);
            default: return upTo(10001);
        }
    }
}
