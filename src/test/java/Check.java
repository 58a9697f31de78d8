import java.nio.charset.StandardCharsets;

/** What the tests of the project share: answers that are due, findings by name, texts for THE TAPE. */
final class Check {
    static final int BEYOND = -1000000001;
    static final int FULL = -1000000002;
    static final int KIND = -1000000003;
    static final int NONE = -1000000004;
    static final int STATE = -1000000005;
    static final int MISSING = -1000000006;
    static final int SIZE = -1000000007;

    private static int asked = 0;
    private static int wrong = 0;

    private Check() {
    }

    static void due(String what, long got, long want) {
        asked++;
        if (got != want) {
            wrong++;
            System.out.println(what + ": answered " + got + ", due is " + want);
        }
    }

    static void wrong(String what) {
        asked++;
        wrong++;
        System.out.println(what);
    }

    /** Ends a test: exit code 1 if an answer was not as due. */
    static void end() {
        System.out.println(asked + " asked, " + wrong + " wrong");
        if (wrong != 0 || asked == 0) {
            System.exit(1);
        }
    }

    /** THE TAPE gets a text, four bytes at a time: an object has 512 calls only. */
    static void feed(WarmGlass x, String text) {
        byte[] bytes = text.getBytes(StandardCharsets.ISO_8859_1);
        for (int i = 0; i < bytes.length; i += 4) {
            int n = Math.min(4, bytes.length - i);
            int four = 0;
            for (int k = 0; k < n; k++) {
                four = four << 8 | bytes[i + k] & 255;
            }
            x.feed(four, n);
        }
    }

    static int law(WarmGlass x, String text, int ray) {
        feed(x, text);
        return x.law(ray);
    }

    static int told(WarmGlass x, String text, int use) {
        feed(x, text);
        return x.told(use);
    }
}
