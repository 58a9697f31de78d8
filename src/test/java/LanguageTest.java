import java.lang.reflect.Field;
import java.lang.reflect.Method;
import java.lang.reflect.Modifier;
import java.nio.file.Files;
import java.nio.file.Path;
import java.util.ArrayList;
import java.util.List;
import java.util.regex.Matcher;
import java.util.regex.Pattern;

/** The rules of LANGUAGE.md that can be seen in the source of the program, by looking at its words. */
public final class LanguageTest {
    private static final String[] FACE = {
        "WarmGlass()", "int cell(int kind, int of, int gas, int water)", "int power(int cell, int v)",
        "int top(int cell, int n)", "int hours(int n)", "int of(int cell, int what)", "int latest(int cell, int what)",
        "int ever(int cell, int what)", "int as(int cell, int kind)", "int feed(int bytes, int n)", "int wipe()",
        "int law(int ray)", "int told(int use)", "int force(int law)", "int tells(int law, int cell)",
        "int says(int use, int cell)", "int house(int of, int limit)", "long houseOf(int house, int what)",
        "int since(int house, int what)", "int order(int i)", "int saying(int v)", "int beside(int a, int b)",
        "int shared(int coins, int house)", "int line(int house, int v)", "int show(int house)",
        "int moved(int house)", "int foretold(int cell, int law, int n, int what)",
        "int parted(int cell, int a, int b, int by)", "int look(int cell, int a, int b, int n)",
        "int must(int cell, int law)", "int barred(int cell, int law, int slip)", "int night(int cell, int read)",
        "int need(int cell, int heat, int n)", "int read(int s, int cell)", "int sheet(int s, int bits, int n)",
        "long write(int s, int i, long v)", "int copy(int s, int from, int t, int to, int n)",
        "int weeks(int s, int cell)", "int image()", "int undo()", "int tear()", "int count(int what)",
        "int status(int which)",
    };
    private static final String[] RULED_OUT = {
        "\\bimport\\b", "\\bpackage\\b", "\\bthrow\\b", "\\bthrows\\b", "\\btry\\b", "\\bcatch\\b", "\\bfinally\\b",
        "\\bsynchronized\\b", "\\bassert\\b", "->", "::", "\\bprotected\\b", "static\\s*\\{", "Exact\\b",
        "\\bSystem\\.(?!arraycopy\\b)", "\\bhashCode\\b", "\\btoString\\b", "\\bvar\\b", "\\bdouble\\b", "\\bfloat\\b",
        "while\\s*\\(\\s*true\\s*\\)", "for\\s*\\(\\s*;\\s*;",
        "\\bnew\\s+\\w+\\s*\\([^)]*\\)\\s*\\{", "(?m)^ +(?:private )?(?:final )?class\\b", "\\bnative\\b", "\\bvolatile\\b",
        "(?m)^ +(?:private )?static (?!final )[\\w\\[\\]]+ \\w+\\s*[=;]", "\" \\+ ", " \\+ \"", "\\bequals\\b", "\\bgetClass\\b",
    };
    private static final Pattern METHOD = Pattern.compile(
        "^( +)((?:public |private |static |final )*)(?:int|long|boolean|void|[A-Z]\\w*(?:\\[\\])?) (\\w+)\\(([^)]*)\\) \\{$");

    public static void main(String[] args) throws Exception {
        String source = Files.readString(Path.of("src/main/java/WarmGlass.java"));
        String code = source.replaceAll("(?s)/\\*.*?\\*/", "").replaceAll("//[^\n]*", "");
        for (String rule : RULED_OUT) {
            Matcher m = Pattern.compile(rule).matcher(code);
            Check.due("ruled out: " + rule, m.find() ? 1 : 0, 0);
        }
        List<String> faceNames = new ArrayList<>();
        for (String one : FACE) {
            Check.due("of the face: " + one, code.contains("    public " + one + " {") ? 1 : 0, 1);
            faceNames.add(one.replaceFirst("^(int|long) ", "").replaceFirst("\\(.*", ""));
        }
        document(code);
        Check.due("public words", code.split("\\bpublic\\b", -1).length - 1, FACE.length + 1);
        Check.due("classes", code.split("\\bclass\\b", -1).length - 1 <= 12 ? 1 : 0, 1);
        methods(code.split("\n"), faceNames);
        Check.end();
    }

    /** The face is read from the document, too, so that a call that it gets or loses isn't overlooked. */
    private static void document(String code) throws Exception {
        Matcher face = Pattern.compile("(?m)^    public (.*);$").matcher(Files.readString(Path.of("../shared/DOC.md")));
        int told = 0;
        while (face.find()) {
            told++;
            Check.due("of the document: " + face.group(1), code.contains("    public " + face.group(1) + " {") ? 1 : 0, 1);
        }
        Check.due("calls of the document", told, FACE.length);
        int visible = WarmGlass.class.getFields().length + WarmGlass.class.getConstructors().length;
        for (Method one : WarmGlass.class.getDeclaredMethods()) {
            visible += Modifier.isPrivate(one.getModifiers()) ? 0 : 1;
        }
        for (Field one : WarmGlass.class.getDeclaredFields()) {
            visible += Modifier.isPrivate(one.getModifiers()) ? 0 : 1;
        }
        Check.due("members that can be seen", visible, told);
        Check.due("a class that is final", Modifier.isFinal(WarmGlass.class.getModifiers()) ? 1 : 0, 1);
    }

    private static void methods(String[] lines, List<String> faceNames) {
        int found = 0;
        for (int i = 0; i < lines.length; i++) {
            Matcher m = METHOD.matcher(lines[i]);
            if (!m.matches()) {
                continue;
            }
            found++;
            int end = i;
            while (end < lines.length && !lines[end].equals(m.group(1) + "}")) {
                end++;
            }
            Check.due(m.group(3) + " is short", end - i < 60 ? 1 : 0, 1);
            Check.due(m.group(3) + " takes few", m.group(4).split(",").length <= 7 ? 1 : 0, 1);
            if (!m.group(2).contains("public")) {
                Check.due(m.group(3) + " isn't a name of the face", faceNames.contains(m.group(3)) ? 1 : 0, 0);
            }
        }
        Check.due("methods are seen", found > 80 ? 1 : 0, 1);
    }
}
