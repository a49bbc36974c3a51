import java.io.IOException;
import java.nio.file.Files;
import java.nio.file.Path;
import java.util.regex.Matcher;
import java.util.regex.Pattern;

/** What README.md shows: its example, call by call, and that it names every call of the face. */
public final class ReadmeTest {
    public static void main(String[] args) throws IOException {
        MendBench bench = new MendBench();
        Checks.of("README.md, a BODY and its RUNS");
        feed(bench, "set a = x; skip 1 if x > 5; set a = a + 1; end a");
        Checks.due("body(false)", 4, () -> bench.body(false));
        Checks.due("run(3, 0, 4)", 0, () -> bench.run(3, 0, 4));
        Checks.due("run(5, 0, 5)", 1, () -> bench.run(5, 0, 5));
        Checks.due("count(2)", 1, () -> bench.count(2));
        Checks.due("look(1, 3)", 6, () -> bench.look(1, 3));
        Checks.due("where(0)", 15, () -> bench.where(0));
        Checks.due("where(1)", 5, () -> bench.where(1));
        Checks.due("first(false)", 20, () -> bench.first(false));
        mends(bench);
        plays(bench);
        record(bench);
        names(Files.readString(Path.of(System.getProperty("main", "src/main/java/MendBench.java")).resolve("../../../../README.md").normalize()));
        Checks.finish();
    }

    /** README.md shows this one. */
    private static void feed(MendBench bench, String text) {
        for (int i = 0; i < text.length(); i += 20) {
            int[] n = new int[5];
            for (int k = 0; k < 20; k++) {
                n[k / 4] = n[k / 4] << 8 | (i + k < text.length() ? text.charAt(i + k) : ' ');
            }
            bench.feed(n[0], n[1], n[2], n[3], n[4]);
        }
    }

    private static void mends(MendBench bench) {
        Checks.of("README.md, MENDS");
        Checks.due("tries(56)", 56, () -> bench.tries(56));
        Checks.due("count(3)", 56, () -> bench.count(3));
        Checks.due("count(6)", 2, () -> bench.count(6));
        Checks.due("alive(0, 0)", 19, () -> bench.alive(0, 0));
        Checks.due("alive(1, 0)", 20, () -> bench.alive(1, 0));
        Checks.due("mend(19, 0)", 1, () -> bench.mend(19, 0));
        Checks.due("line(19, 1, 3)", 8, () -> bench.line(19, 1, 3));
        Checks.due("line(20, 1, 4)", 14, () -> bench.line(20, 1, 4));
        Checks.due("input(false)", 96, () -> bench.input(false));
        Checks.due("aliveEnds(0, 6, 0)", 7, () -> bench.aliveEnds(0, 6, 0));
        Checks.due("aliveEnds(1, 6, 0)", 6, () -> bench.aliveEnds(1, 6, 0));
        Checks.due("run(6, 0, 6)", 2, () -> bench.run(6, 0, 6));
        Checks.due("count(8)", 1, () -> bench.count(8));
        Checks.due("alive(0, 0) now", 20, () -> bench.alive(0, 0));
    }

    private static void plays(MendBench bench) {
        Checks.of("README.md, LAW, SECOND, MADE");
        feed(bench, "not x > 4 or r = x");
        Checks.due("law()", true, bench::law);
        Checks.due("prove(0, false)", 0, () -> bench.prove(0, false));
        feed(bench, "skip 1 if x < 5; end x; end x + 1");
        Checks.due("body(true)", 3, () -> bench.body(true));
        Checks.due("otherwise(NONE)", 8, () -> bench.otherwise(MendBench.NONE));
        Checks.due("otherwise(0)", 0, () -> bench.otherwise(0));
        bench.image();
        Checks.due("make(0)", 1, () -> bench.make(0));
        Checks.due("count(2)", 0, () -> bench.count(2));
        Checks.due("putIn(18)", 2, () -> bench.putIn(18));
        Checks.due("run(4, 0, 5)", 3, () -> bench.run(4, 0, 5));
        Checks.due("putIn(18) now", 1, () -> bench.putIn(18));
        Checks.due("takeBack()", true, bench::takeBack);
        Checks.due("back()", true, bench::back);
    }

    private static void record(MendBench bench) {
        Checks.of("README.md, the record of tries");
        Checks.due("row(7, 0)", 55, () -> bench.row(7, 0));
        Checks.due("row(7, 1)", 0, () -> bench.row(7, 1));
        Checks.due("tear(7, 2)", 2, () -> bench.tear(7, 2));
        Checks.due("check()", 7, bench::check);
        feed(bench, "set e = 1");
        Checks.due("body(false)", "IllegalArgumentException", () -> bench.body(false));
        Checks.due("fault()", 4, bench::fault);
    }

    private static void names(String readme) {
        Checks.of("README.md names every call, and no call that there is not");
        for (java.lang.reflect.Method m : MendBench.class.getDeclaredMethods()) {
            if (java.lang.reflect.Modifier.isPublic(m.getModifiers())) {
                Checks.due(m.getName(), true, () -> Pattern.compile("`" + m.getName() + "\\(").matcher(readme).find());
            }
        }
        Matcher called = Pattern.compile("bench\\.(\\w+)\\(").matcher(readme);
        while (called.find()) {
            String name = called.group(1);
            Checks.due(name, true, () -> java.util.Arrays.stream(MendBench.class.getDeclaredMethods()).anyMatch(m -> m.getName().equals(name)));
        }
    }
}
