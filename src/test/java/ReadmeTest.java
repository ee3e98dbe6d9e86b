import java.io.IOException;
import java.nio.file.Files;
import java.nio.file.Path;
import java.util.ArrayList;
import java.util.List;
import java.util.regex.Matcher;
import java.util.regex.Pattern;

/**
 * README.md tells the truth: each call of its example answers what stands behind it, and
 * its table has the calls in the document's order. Run from the project's root, as .ci/run does.
 */
public final class ReadmeTest {
    private static final String[] ORDER = {
        "new TallShips", "tide", "set", "tugs", "ship", "quay", "foul", "arrives", "count", "first", "may",
        "put", "at", "wrong", "best", "mend", "left", "plan", "in", "parade", "minutes", "open"};

    private static List<String> lines;
    private static int next;

    public static void main(String[] args) throws IOException {
        lines = Files.readAllLines(Path.of("README.md"));
        example();
        table();
        sentences();
        Due.end("readme");
    }

    /** The next line of the example must be this call, with this answer behind it. */
    private static void told(String call, Object answer) {
        String line = next < lines.size() ? lines.get(next) : "";
        next++;
        String due = "river." + call + "; // " + answer;
        String got = line.replaceAll(" +//", " //");
        boolean alike = got.equals(due) || got.matches("\\Q" + due + "\\E[ :,].*");
        Due.same("README has '" + line + "', due is '" + due + "'", alike, true);
    }

    private static void example() {
        TallShips river = new TallShips();
        next = lines.indexOf("TallShips river = new TallShips();") + 1;
        Due.same("README has an example", next > 0, true);
        told("tide(3, 10)", river.tide(3, 10));
        told("set(1, 490)", river.set(1, 490));
        told("tugs(0, 5, 1)", river.tugs(0, 5, 1));
        told("quay(800, 35, false, 3, 40)", river.quay(800, 35, false, 3, 40));
        told("quay(1000, 45, true, 5, 20)", river.quay(1000, 45, true, 5, 20));
        told("ship(500, 30, 400, 10, 1, 0, 5)", river.ship(500, 30, 400, 10, 1, 0, 5));
        told("ship(300, 35, 480, 20, 2, 0, 9)", river.ship(300, 35, 480, 20, 2, 0, 9));
        told("ship(200, 40, 100, 5, 0, 2, 2)", river.ship(200, 40, 100, 5, 0, 2, 2));
        told("first(2, 0, 0)", river.first(2, 0, 0));
        told("may(1, 0)", river.may(1, 0));
        told("best()", river.best());
        told("at(0)", river.at(0));
        told("count(3)", river.count(3));
        told("left(1)", river.left(1));
        told("foul(1, 2, true)", river.foul(1, 2, true));
        told("wrong()", river.wrong());
        told("mend()", river.mend());
        told("at(2)", river.at(2));
        told("wrong()", river.wrong());
        told("plan()", river.plan());
        told("in(0)", river.in(0));
        told("in(1)", river.in(1));
        told("parade(0)", river.parade(0));
        told("minutes()", river.minutes());
        told("open(0, 0, 11)", river.open(0, 0, 11));
        Due.same("the example ends", next < lines.size() && lines.get(next).equals("```"), true);
    }

    private static void table() {
        List<String> found = new ArrayList<>();
        for (String line : lines) {
            if (line.startsWith("| `")) {
                found.add(line.substring(3, line.indexOf('(')));
            }
        }
        Due.same("calls in README's table", found.size(), ORDER.length);
        for (int i = 0; i < Math.min(found.size(), ORDER.length); i++) {
            Due.same("README's call " + i + " is " + found.get(i), found.get(i).equals(ORDER[i]), true);
        }
    }

    /** Each test that SENTENCES.md names is there. */
    private static void sentences() throws IOException {
        Matcher named = Pattern.compile("`(\\w+Test)\\.(\\w+)`")
                .matcher(Files.readString(Path.of("src/test/SENTENCES.md")));
        int found = 0;
        while (named.find()) {
            found++;
            Path test = Path.of("src/test/java", named.group(1) + ".java");
            boolean there = Files.exists(test)
                    && Files.readString(test).contains("static void " + named.group(2) + "(");
            Due.same("there is " + named.group(), there, true);
        }
        Due.same("SENTENCES.md names tests", found > 0, true);
    }
}
