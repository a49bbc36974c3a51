import java.nio.charset.StandardCharsets;

/** What the tests share: texts that are fed, answers and exceptions that are held against those due. */
final class Checks {
    private static int answers;
    private static int wrong;

    private Checks() { }

    /** One call of the face. */
    interface Call {
        Object answer();
    }

    /** A call's answer, or the short name of the exception that it threw. */
    static void due(String name, Object want, Call call) {
        Object got;
        try {
            got = call.answer();
        } catch (RuntimeException e) {
            boolean ours = e.getStackTrace()[0].getClassName().startsWith("MendBench");
            got = (ours ? "" : "the machine threw ") + e.getClass().getSimpleName();
        }
        answers++;
        if (!want.equals(got)) {
            wrong++;
            System.out.println(name + " answered " + got + ", due is " + want);
        }
    }

    static void feedText(MendBench bench, String text) {
        byte[] bytes = text.getBytes(StandardCharsets.ISO_8859_1);
        for (int i = 0; i < bytes.length; i += 20) {
            int[] n = new int[5];
            for (int k = 0; k < 20; k++) {
                n[k / 4] = n[k / 4] << 8 | (i + k < bytes.length ? bytes[i + k] & 255 : 0);
            }
            bench.feed(n[0], n[1], n[2], n[3], n[4]);
        }
        if (!bench.end(bytes.length)) {
            throw new AssertionError("the tape does not hold " + text);
        }
    }

    static MendBench withBody(String text) {
        MendBench bench = new MendBench();
        putBody(bench, text);
        return bench;
    }

    static void putBody(MendBench bench, String text) {
        feedText(bench, text);
        due("body of " + text, text.split(";").length, () -> bench.body(false));
    }

    static void putSecond(MendBench bench, String text) {
        feedText(bench, text);
        due("second of " + text, text.split(";").length, () -> bench.body(true));
    }

    static void putLaw(MendBench bench, String text) {
        feedText(bench, text);
        due("law of " + text, true, bench::law);
    }

    static void finish() {
        System.out.println(answers + " answers, " + wrong + " wrong");
        if (wrong != 0) {
            System.exit(1);
        }
    }
}
