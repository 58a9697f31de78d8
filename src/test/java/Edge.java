import java.util.IdentityHashMap;
import java.util.Map;

/** How an edge of the document is tried: which words it stands for, what is answered, what is refused. */
final class Edge {
    static final int MIN = Integer.MIN_VALUE;
    static final int MAX = Integer.MAX_VALUE;

    /** Makes an object by the same calls every time. */
    interface Scene {
        WarmGlass make();
    }

    interface Call {
        long on(WarmGlass x);
    }

    interface CallWith {
        long on(WarmGlass x, int v);
    }

    private static final Document DOCUMENT = new Document();
    private static final Map<Scene, String[]> LEFT_ALONE = new IdentityHashMap<>();
    private static String about = null;
    private static int askedOfIt = 0;

    private Edge() {
    }

    /** What is asked from here on stands for these words of a promise (0: of the terms). */
    static void sentence(int promise, String words) {
        close();
        about = promise == 0 ? "Terms, \"" + words + "\"" : "Promise " + promise + ", \"" + words + "\"";
        askedOfIt = 0;
        if (!DOCUMENT.marks(promise, words)) {
            Check.wrong(about + ": the document has no such words");
        }
    }

    /** Behind the last sentence: none may be without a test, and no words of the document without a sentence. */
    static void end() {
        close();
        for (String words : DOCUMENT.withoutSentence()) {
            Check.wrong("no test stands for these words: " + words);
        }
        Check.end();
    }

    private static void close() {
        if (about != null && askedOfIt == 0) {
            Check.wrong(about + ": nothing is asked");
        }
    }

    static void due(String what, long got, long want) {
        askedOfIt++;
        Check.due(about + ": " + what, got, want);
    }

    /** An answer that is no finding. */
    static void answers(String what, Scene scene, Call call, long want) {
        WarmGlass x = scene.make();
        long before = x.status(-1);
        due(what, call.on(x), want);
        due(what + ", no finding", x.status(-1), before);
    }

    /** A finding, that it alone is counted, and that nothing but status() is another than without the call. */
    static void refused(String what, Scene scene, int finding, Call call) {
        WarmGlass x = scene.make();
        long[] want = statuses(x);
        want[0]++;
        want[Check.BEYOND - finding + 1]++;
        due(what, call.on(x), finding);
        long[] got = statuses(x);
        for (int i = 0; i < want.length; i++) {
            due(what + ", status(" + (i - 1) + ")", got[i], want[i]);
        }
        changesNothing(what, scene, call);
    }

    /** An answer that is no finding, of a call that leaves all as it was. */
    static void answersAlone(String what, Scene scene, Call call, long want) {
        answers(what, scene, call, want);
        changesNothing(what, scene, call);
    }

    private static void changesNothing(String what, Scene scene, Call call) {
        String[] alone = LEFT_ALONE.computeIfAbsent(scene, Edge::leftAlone);
        for (int part = 0; part < Probe.PARTS; part++) {
            WarmGlass y = scene.make();
            call.on(y);
            String now = Probe.of(y, part);
            due(what + ", changed nothing: " + firstApart(now, alone[part]), now.equals(alone[part]) ? 1 : 0, 1);
        }
    }

    /** Each of these numbers in its place is refused. */
    static void refusedEach(String what, Scene scene, int finding, CallWith call, int... numbers) {
        for (int v : numbers) {
            refused(what + " " + v, scene, finding, x -> call.on(x, v));
        }
    }

    private static String[] leftAlone(Scene scene) {
        String[] alone = new String[Probe.PARTS];
        for (int part = 0; part < alone.length; part++) {
            alone[part] = Probe.of(scene.make(), part);
        }
        return alone;
    }

    private static long[] statuses(WarmGlass x) {
        long[] all = new long[8];
        for (int i = 0; i < all.length; i++) {
            all[i] = x.status(i - 1);
        }
        return all;
    }

    private static String firstApart(String now, String alone) {
        String[] a = now.split("\n");
        String[] b = alone.split("\n");
        for (int i = 0; i < a.length && i < b.length; i++) {
            if (!a[i].equals(b[i])) {
                return a[i] + ", without it " + b[i];
            }
        }
        return "all alike";
    }
}
