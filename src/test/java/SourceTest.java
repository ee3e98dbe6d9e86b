import java.io.IOException;
import java.lang.reflect.Field;
import java.lang.reflect.Method;
import java.lang.reflect.Modifier;
import java.nio.file.Files;
import java.nio.file.Path;
import java.util.ArrayList;
import java.util.List;

/**
 * What is asked of the text of the class: the face in the document's order with the lines
 * that the interface says ahead of some calls, and those rules of LANGUAGE.md that can be
 * seen without reading closely. Run from the project's root, as .ci/run does.
 */
public final class SourceTest {
    private static final String[] FACE = {
        "public static final int NONE = -1;",
        "public TallShips()",
        "public boolean tide(int place, int level)",
        "public int set(int what, int v)",
        "public boolean tugs(int from, int to, int v)",
        "public int ship(int length, int draught, int height, int fame, int needs, int arrives, int stop)",
        "public int quay(int length, int depth, boolean above, int crowd, int deck)",
        "public boolean foul(int a, int b, boolean is)",
        "public int arrives(int ship, int hour)",
        "public int count(int what)",
        "public int first(int ship, int hour, int how)",
        "public int may(int ship, int quay)",
        "// ---- berths",
        "public boolean put(int ship, int quay)",
        "public int at(int ship) throws NoSuchElementException",
        "public int wrong()",
        "public int best()",
        "public int mend()",
        "public int left(int quay)",
        "// ---- in",
        "public int plan()",
        "public int in(int ship)",
        "// ---- parade, visitors",
        "public int parade(int i)",
        "public int minutes()",
        "public int open(int ship, int from, int to)"};
    /** Words and signs of what the rules leave out, or what this class has no need of. */
    private static final String[] LEFT_OUT = {
        "\\bpackage\\b", "\\bcatch\\b", "\\btry\\b", "\\bfinally\\b", "\\bsynchronized\\b", "\\bassert\\b",
        "\\bdouble\\b", "\\bfloat\\b", "\\bObject\\b", "\\bSystem\\b", "\\bThread\\b", "\\bRandom\\b",
        "\\bprotected\\b", "\\bvar\\b", "\\bwhile\\b", "->", "::", "\\w+Exact\\b", "static \\{"};
    private static final int LONGEST_METHOD = 60;

    public static void main(String[] args) throws IOException {
        List<String> lines = Files.readAllLines(Path.of("src/main/java/TallShips.java"));
        face(lines);
        imports(lines);
        leftOut(lines);
        madeInConstructorsAlone(lines);
        methodsAreShort(lines);
        classes();
        Due.end("source");
    }

    private static void face(List<String> lines) {
        List<String> found = new ArrayList<>();
        for (String line : lines) {
            String text = line.strip().replaceAll(" \\{$", "");
            boolean section = text.startsWith("// ---- ") && List.of(FACE).contains(text);
            if (section || line.startsWith("    public ")) {
                found.add(text);
            }
        }
        Due.same("lines of the face", found.size(), FACE.length);
        for (int i = 0; i < Math.min(found.size(), FACE.length); i++) {
            Due.same("line " + i + " of the face: " + found.get(i), found.get(i).equals(FACE[i]), true);
        }
    }

    /** Rule 4. */
    private static void imports(List<String> lines) {
        for (String line : lines) {
            boolean known = line.equals("import java.util.Arrays;")
                    || line.equals("import java.util.NoSuchElementException;");
            Due.same("import: " + line, !line.startsWith("import") || known, true);
        }
    }

    /** Rules 2 to 6, 13; only at throws. */
    private static void leftOut(List<String> lines) {
        int thrown = 0;
        for (String line : lines) {
            String code = code(line);
            for (String each : LEFT_OUT) {
                Due.same(each + " in: " + line, code.matches(".*" + each + ".*"), false);
            }
            thrown += code.matches(".*\\bthrow\\b.*") ? 1 : 0;
            for (int i = 0; i < line.length(); i++) {
                Due.same("a sign of the text: " + line, line.charAt(i) < 128, true);
            }
        }
        Due.same("throw statements", thrown, 1);
    }

    /** The line without its comment; comments begin a line or end it here. */
    private static String code(String line) {
        String text = line.strip();
        boolean comment = text.startsWith("*") || text.startsWith("/*") || text.startsWith("//");
        return comment ? "" : text.replaceAll("//.*", "");
    }

    /** Rule 12 and the one room that all calls share: no call makes an object, but the exception of at. */
    private static void madeInConstructorsAlone(List<String> lines) {
        String head = "";
        for (String line : lines) {
            String code = code(line);
            if (code.endsWith("{") && code.contains("(") && !code.matches("(if|for|switch|\\}).*")) {
                head = code;
            }
            boolean constructor = head.matches("(public )?[A-Z]\\w*\\(.*");
            boolean made = code.matches(".*\\bnew\\b.*") || code.contains(".clone(") || code.contains("copyOf");
            Due.same("made in a call: " + line, made && !constructor && !code.startsWith("throw "), false);
        }
    }

    /** Rule 11: at most some sixty lines. */
    private static void methodsAreShort(List<String> lines) {
        int begun = 0;
        for (int i = 0; i < lines.size(); i++) {
            String line = lines.get(i);
            boolean head = line.matches(" {4}(public|private) .*\\) .*\\{") || line.matches(" {8}\\w.*\\) \\{");
            begun = head ? i : begun;
            if (line.equals("    }") || line.equals("        }")) {
                Due.same("a short method ends at line " + (i + 1), i - begun < LONGEST_METHOD, true);
            }
        }
    }

    /** Rules 1, 2, 11. */
    private static void classes() {
        Class<?>[] inside = TallShips.class.getDeclaredClasses();
        Due.same("at most some twelve classes", inside.length < 12, true);
        classIsSmall(TallShips.class);
        for (Class<?> each : inside) {
            Due.same("static: " + each, Modifier.isStatic(each.getModifiers()), true);
            Due.same("private: " + each, Modifier.isPrivate(each.getModifiers()), true);
            classIsSmall(each);
        }
    }

    private static void classIsSmall(Class<?> type) {
        int fields = 0;
        for (Field each : type.getDeclaredFields()) {
            fields += Modifier.isStatic(each.getModifiers()) ? 0 : 1;
        }
        Due.same("some twenty fields at most: " + type, fields <= 20, true);
        for (Method each : type.getDeclaredMethods()) {
            Due.same("at most seven parameters: " + each, each.getParameterCount() <= 7, true);
        }
    }
}
