import java.nio.charset.StandardCharsets;

/** What the tests share: texts that are fed, answers and exceptions that are held against those due. */
final class Checks {
    private static int answers;
    private static int wrong;
    private static String sentence = "";

    private Checks() { }

    /** The document's sentence to which the answers that follow belong: a wrong one is told with it. */
    static void of(String told) {
        sentence = "[" + told + "] ";
    }

    /** One call of the face. */
    interface Call {
        Object answer();
    }

    /** A call's answer, or the short name of the exception that it threw. */
    static void due(String name, Object want, Call call) {
        Object got;
        try {
            got = call.answer();
        } catch (RuntimeException e) {
            boolean ours = e.getStackTrace()[0].getClassName().startsWith("MendBench");
            got = (ours ? "" : "the machine threw ") + e.getClass().getSimpleName();
        }
        answers++;
        if (!want.equals(got)) {
            wrong++;
            System.out.println(sentence + name + " answered " + got + ", due is " + want);
        }
    }

    static void feedText(MendBench bench, String text) {
        feedText(bench, text, 0);
    }

    /** A text, and up to twenty bytes more that the TAPE's end cuts off again: they must tell nothing. */
    static void feedText(MendBench bench, String text, int cut) {
        byte[] bytes = text.getBytes(StandardCharsets.ISO_8859_1);
        for (int i = 0; i <= bytes.length && i < 400; i += 20) {
            int[] n = new int[5];
            for (int k = 0; k < 20; k++) {
                n[k / 4] = n[k / 4] << 8 | (i + k < bytes.length ? bytes[i + k] & 255 : cut);
            }
            bench.feed(n[0], n[1], n[2], n[3], n[4]);
        }
        if (!bench.end(bytes.length)) {
            throw new AssertionError("the tape does not hold " + text);
        }
    }

    static MendBench withBody(String text) {
        MendBench bench = new MendBench();
        putBody(bench, text);
        return bench;
    }

    /** A bench with a BODY and RUNS, three numbers each: x, y and the number that it must end with. */
    static MendBench withRuns(String text, int... runs) {
        MendBench bench = withBody(text);
        for (int i = 0; i + 2 < runs.length; i += 3) {
            int x = runs[i];
            int y = runs[i + 1];
            int must = runs[i + 2];
            int number = i / 3;
            due("run " + number, number, () -> bench.run(x, y, must));
        }
        return bench;
    }

    static void putBody(MendBench bench, String text) {
        feedText(bench, text);
        due("body of " + text, text.split(";").length, () -> bench.body(false));
    }

    static void putSecond(MendBench bench, String text) {
        feedText(bench, text);
        due("second of " + text, text.split(";").length, () -> bench.body(true));
    }

    static void putLaw(MendBench bench, String text) {
        feedText(bench, text);
        due("law of " + text, true, bench::law);
    }

    static void finish() {
        System.out.println(answers + " answers, " + wrong + " wrong");
        if (wrong != 0) {
            System.exit(1);
        }
    }
}
