import java.nio.charset.StandardCharsets;

/** Long runs of mixed calls, held against Model call by call: answers, exceptions, and that the machine itself never throws. */
public final class ModelTest {
    private static long seed;
    private static int wrong;
    private static int answers;
    private static int thrown;

    private static int pick(int n) {
        seed = seed * 6364136223846793005L + 1442695040888963407L;
        return (int) ((seed >>> 33) % n);
    }

    private static String oneOf(String... all) {
        return all[pick(all.length)];
    }

    private static int odd() {
        int[] all = {-1, Integer.MIN_VALUE, Integer.MAX_VALUE, -2, 16, 12, 13, 400, 401, 999999, 1000000, -999999, -1000000};
        return all[pick(all.length)];
    }

    private static String blanks() {
        return pick(5) == 0 ? "  ".substring(pick(2)) : "";
    }

    private static String atom() {
        int k = pick(10);
        if (k < 5) {
            return oneOf("a", "b", "c", "d");
        }
        if (k < 8) {
            return oneOf("x", "y");
        }
        return oneOf("0", "1", "2", "3", "01", "00", "9", "10", "98", "99", "7");
    }

    private static String lineText() {
        int k = pick(12);
        if (k < 6) {
            return "set " + oneOf("a", "b", "c", "d", "a", "b") + blanks() + "=" + blanks() + sumText();
        }
        if (k < 9) {
            return "skip " + (1 + pick(pick(4) == 0 ? 9 : 3)) + blanks() + "if " + testText();
        }
        if (k < 11) {
            return "back" + blanks() + (1 + pick(pick(4) == 0 ? 9 : 3)) + " if " + testText();
        }
        return "end " + sumText();
    }

    private static String sumText() {
        return pick(4) == 0 ? atom() : atom() + blanks() + oneOf("+", "-", "*", "/", "%", "+", "-") + blanks() + atom();
    }

    private static String testText() {
        return atom() + blanks() + oneOf("<", ">", "=") + blanks() + atom();
    }

    private static String bodyText(int most) {
        int n = 1 + pick(most);
        StringBuilder text = new StringBuilder(blanks());
        String last = lineText();
        for (int i = 0; i < n; i++) {
            last = pick(6) == 0 ? last : lineText();
            text.append(i == 0 ? "" : blanks() + ";" + blanks()).append(last);
        }
        return text.append(blanks()).toString();
    }

    private static String lawText(int deep) {
        StringBuilder text = new StringBuilder();
        int n = 1 + pick(3);
        for (int i = 0; i < n; i++) {
            text.append(i == 0 ? "" : oneOf(" or ", " and ", "  and  "));
            int k = pick(5);
            if (k == 0 && deep < 8) {
                text.append("not ").append(pick(2) == 0 ? "(" + lawText(deep + 2) + ")" : lawText(deep + 4));
            } else if (k == 1 && deep < 8) {
                text.append("(").append(lawText(deep + 1)).append(")");
            } else {
                text.append(oneOf("r", "r", "x", "y", "5", "12", "0001", "9999")).append(blanks())
                    .append(oneOf("<", ">", "=")).append(blanks()).append(oneOf("r", "x", "y", "0", "7", "300"));
            }
        }
        return text.toString();
    }

    /** Now and then a text is spoilt: a byte more, less or another. */
    private static String spoilt(String text, int often) {
        if (pick(often) != 0 || text.isEmpty()) {
            return text;
        }
        int at = pick(text.length());
        String byteMore = oneOf(" ", "a", "1", "0", ";", "=", "(", ")", "Z", "\u00e9", "\u0000", "+", "if", "10", "not ", "e");
        int k = pick(4);
        return k == 0 ? text.substring(0, at) : k == 1 ? text.substring(0, at) + byteMore + text.substring(at)
            : text.substring(0, at) + (k == 2 ? byteMore : "") + text.substring(at + 1);
    }

    private static String call;

    private static void feedText(MendBench bench, Model model, String text) {
        byte[] bytes = text.getBytes(StandardCharsets.ISO_8859_1);
        int length = Math.min(bytes.length, 400);
        for (int i = 0; i < length; i += 20) {
            int[] n = new int[5];
            for (int k = 0; k < 20; k++) {
                n[k / 4] = n[k / 4] << 8 | (i + k < bytes.length ? bytes[i + k] & 255 : 0);
            }
            due(model.feed(n[0], n[1], n[2], n[3], n[4]), bench.feed(n[0], n[1], n[2], n[3], n[4]));
        }
        due(model.end(length) ? 1 : 0, bench.end(length) ? 1 : 0);
    }

    private static void due(long want, long got) {
        answers++;
        if (want != got) {
            wrong++;
            System.out.println(call + " answered " + got + ", due is " + want);
        }
    }

    /** Mostly an index below a size; now and then the size itself, or an odd number. */
    private static int index(int size) {
        return pick(12) == 0 ? odd() : pick(8) == 0 ? size : pick(Math.max(1, size));
    }

    private static int some(int n) {
        return pick(15) == 0 ? odd() : pick(n);
    }

    /** A call as numbers: its kind and its arguments. */
    private static int[] choose(Model m) {
        int[] often = {0, 1, 2, 3, 3, 4, 4, 4, 5, 5, 6, 6, 6, 7, 7, 7, 8, 8, 8, 9, 10, 12, 12, 12, 12, 12, 13, 13, 13, 14, 14,
            15, 16, 16, 17, 18, 18, 18, 18, 19, 19, 19, 19, 20, 21, 21, 21, 22, 22, 23, 23, 23, 23, 24, 25, 26, 26, 27, 28,
            28, 29, 29, 30, 31};
        int kind = often[pick(often.length)];
        int kept = m.s.kept.size();
        int mends = m.count(3);
        int lines = m.s.body.size();
        switch (kind) {
            case 0: return new int[] {0, pick(4) == 0 ? 10 : 1 + pick(6), pick(3)};
            case 1: return new int[] {1};
            case 2: return new int[] {2, some(8), some(8), dueFor()};
            case 3: return new int[] {3, some(16), some(16), pick(4) == 0 ? 1 : 0};
            case 4: return new int[] {4, index(m.s.runs.size()), some(8)};
            case 5: return new int[] {5, index(lines), pick(2)};
            case 6: return new int[] {6, some(4)};
            case 7: return new int[] {7, index(mends), some(5)};
            case 8: return new int[] {8, pick(4) == 0 ? -1 : index(mends), index(lines), some(7)};
            case 12: return new int[] {12, pick(3) == 0 ? 400 : some(120)};
            case 13: return new int[] {13, index(kept), some(4)};
            case 14: return new int[] {14, index(kept), some(16), some(16)};
            case 15: return new int[] {15, some(7)};
            case 16: return new int[] {16, pick(2)};
            case 17: return new int[] {17, some(16)};
            case 18: return new int[] {18, pick(2)};
            case 19: return new int[] {19, index(kept), pick(2)};
            case 21: return new int[] {21, pick(3) == 0 ? -1 : index(kept)};
            case 23: return new int[] {23, index(mends)};
            case 24: return new int[] {24, index(kept)};
            case 26: return new int[] {26, index(8), some(3)};
            case 27: return new int[] {27, index(8), pick(3) == 0 ? 0 : pick(2) == 0 ? odd() : pick(4)};
            case 29: return new int[] {29, some(14)};
            default: return new int[] {kind};
        }
    }

    private static final int NEXT_DUE = 7777777;

    /** Mostly what the program ends with that is sought in this run of calls, so that something stays alive. */
    private static int dueFor() {
        return pick(12) == 0 ? odd() : pick(12) == 0 ? pick(30) - 5 : NEXT_DUE;
    }

    private static java.util.List<Model.Line> sought = java.util.List.of();

    private static void seek(Model m) {
        sought = m.s.body;
        for (int i = pick(3); i > 0; i--) {
            java.util.List<Model.Mend> all = Model.singles(sought);
            sought = all.isEmpty() ? sought : all.get(pick(all.size())).whole();
        }
    }

    private static int soughtEnd(int x, int y) {
        int end = Model.endOf(sought, x, y);
        return end > 999999 ? 0 : end;
    }

    private static long onModel(Model m, int[] c, boolean second) {
        switch (c[0]) {
            case 0: return m.body(second);
            case 1: return m.law() ? 1 : 0;
            case 2: return m.run(c[1], c[2], c[3]);
            case 3: return m.ends(c[1], c[2], c[3] == 1);
            case 4: return m.look(c[1], c[2]);
            case 5: return m.done(c[1], c[2] == 1);
            case 6: return m.where(c[1]);
            case 7: return m.mend(c[1], c[2]);
            case 8: return m.line(c[1], c[2], c[3]);
            case 12: return m.tries(c[1]);
            case 13: return m.alive(c[1], c[2]);
            case 14: return m.aliveEnds(c[1], c[2], c[3]);
            case 15: return m.teach(c[1]);
            case 16: return m.first(c[1] == 1);
            case 17: m.box(c[1]); return 0;
            case 18: return m.input(c[1] == 1);
            case 19: return m.prove(c[1], c[2] == 1);
            case 20: return m.bar();
            case 21: return m.otherwise(c[1]);
            case 22: return m.heaps();
            case 23: return m.putIn(c[1]);
            case 24: return m.make(c[1]);
            case 25: return m.takeBack() ? 1 : 0;
            case 26: return m.row(c[1], c[2]);
            case 27: return m.tear(c[1], c[2]);
            case 28: return m.check();
            case 29: return m.count(c[1]);
            case 30: m.image(); return 0;
            case 31: return m.back() ? 1 : 0;
            default: return m.fault();
        }
    }

    private static long onBench(MendBench m, int[] c, boolean second) {
        switch (c[0]) {
            case 0: return m.body(second);
            case 1: return m.law() ? 1 : 0;
            case 2: return m.run(c[1], c[2], c[3]);
            case 3: return m.ends(c[1], c[2], c[3] == 1);
            case 4: return m.look(c[1], c[2]);
            case 5: return m.done(c[1], c[2] == 1);
            case 6: return m.where(c[1]);
            case 7: return m.mend(c[1], c[2]);
            case 8: return m.line(c[1], c[2], c[3]);
            case 12: return m.tries(c[1]);
            case 13: return m.alive(c[1], c[2]);
            case 14: return m.aliveEnds(c[1], c[2], c[3]);
            case 15: return m.teach(c[1]);
            case 16: return m.first(c[1] == 1);
            case 17: m.box(c[1]); return 0;
            case 18: return m.input(c[1] == 1);
            case 19: return m.prove(c[1], c[2] == 1);
            case 20: return m.bar();
            case 21: return m.otherwise(c[1]);
            case 22: return m.heaps();
            case 23: return m.putIn(c[1]);
            case 24: return m.make(c[1]);
            case 25: return m.takeBack() ? 1 : 0;
            case 26: return m.row(c[1], c[2]);
            case 27: return m.tear(c[1], c[2]);
            case 28: return m.check();
            case 29: return m.count(c[1]);
            case 30: m.image(); return 0;
            case 31: return m.back() ? 1 : 0;
            default: return m.fault();
        }
    }

    private static void both(MendBench bench, Model model, int[] c, boolean second) {
        String want = "";
        String got = "";
        long wantNumber = 0;
        long gotNumber = 0;
        try {
            wantNumber = onModel(model, c, second);
        } catch (RuntimeException e) {
            want = e.getClass().getName();
        }
        try {
            gotNumber = onBench(bench, c, second);
        } catch (RuntimeException e) {
            got = e.getClass().getName();
            thrown++;
            if (!e.getStackTrace()[0].getClassName().equals("MendBench")) {
                wrong++;
                System.out.println(call + ": the machine threw " + e);
            }
        }
        if (!want.equals(got)) {
            wrong++;
            System.out.println(call + " threw '" + got + "', due is '" + want + "'");
        }
        due(wantNumber, gotNumber);
    }

    private static void oneRun(int number) {
        seed = number * 7919L + 13;
        MendBench bench = new MendBench();
        Model model = new Model();
        int most = 1 + pick(pick(3) == 0 ? 10 : 4);
        int calls = 40 + pick(100);
        if (pick(10) != 0) {
            oneCall(bench, model, new int[] {0, most, 0}, number, -3);
        }
        for (int i = 0; i < pick(5); i++) {
            oneCall(bench, model, new int[] {2, pick(8), pick(8), NEXT_DUE}, number, -2);
        }
        if (pick(2) != 0) {
            oneCall(bench, model, new int[] {1}, number, -1);
        }
        for (int i = 0; i < calls && wrong < 20; i++) {
            oneCall(bench, model, choose(model), number, i);
        }
    }

    private static void oneCall(MendBench bench, Model model, int[] c, int number, int i) {
        call = "run " + number + " call " + i + " " + java.util.Arrays.toString(c);
        boolean second = c[0] == 0 && c[2] > 0;
        if (c[0] == 0) {
            String text = spoilt(bodyText(c[1]), 5);
            call = call + " " + text;
            feedText(bench, model, text);
        } else if (c[0] == 1) {
            String text = spoilt(lawText(0), 5);
            call = call + " " + text;
            feedText(bench, model, text);
        } else if (c[0] == 2 && c[3] == NEXT_DUE) {
            c[3] = soughtEnd(c[1], c[2]);
        }
        both(bench, model, c, second);
        if (c[0] < 2) {
            both(bench, model, new int[] {99}, false);
        }
        if (c[0] == 0 && !second) {
            seek(model);
        }
        if (c[0] == 9 || c[0] == 10) {
            for (int k = -1; k < 14; k++) {
                due(model.count(k), bench.count(k));
            }
        }
    }

    /** RUNS that are right by one MEND each, of a BODY: heaps, and the faults that they show. */
    private static void mendedRuns(int number) {
        seed = number * 104729L + 7;
        MendBench bench = new MendBench();
        Model model = new Model();
        oneCall(bench, model, new int[] {0, 3, 0}, number, -1);
        java.util.List<Model.Mend> all = Model.singles(model.s.body);
        int runs = all.isEmpty() ? 0 : pick(7);
        int few = 1 + pick(4);
        java.util.List<Integer> chosen = new java.util.ArrayList<>();
        for (int i = 0; i < few; i++) {
            chosen.add(pick(Math.max(1, all.size())));
        }
        for (int i = 0; i < runs; i++) {
            sought = pick(3) == 0 ? model.s.body : all.get(chosen.get(pick(few))).whole();
            oneCall(bench, model, new int[] {2, pick(5), pick(5), NEXT_DUE}, number, i);
            oneCall(bench, model, new int[] {22}, number, i);
            oneCall(bench, model, new int[] {23, pick(all.size())}, number, i);
            oneCall(bench, model, new int[] {6, pick(3)}, number, i);
        }
    }

    public static void main(String[] args) {
        int from = args.length > 0 ? Integer.parseInt(args[0]) : 0;
        int to = args.length > 1 ? Integer.parseInt(args[1]) : 1500;
        for (int i = from; i < to && wrong < 20; i++) {
            oneRun(i);
            mendedRuns(i);
        }
        System.out.println(answers + " answers, " + thrown + " exceptions, " + wrong + " wrong");
        if (wrong != 0) {
            System.exit(1);
        }
    }
}
