import java.nio.charset.StandardCharsets;

/** Long runs of mixed calls, held against Model call by call: answers, exceptions, and that the machine itself never throws. */
public final class ModelTest {
    private static long seed;
    private static int wrong;
    private static int answers;
    private static int thrown;

    private static int pick(int n) {
        seed = seed * 6364136223846793005L + 1442695040888963407L;
        return (int) ((seed >>> 33) % n);
    }

    private static String oneOf(String... all) {
        return all[pick(all.length)];
    }

    private static int odd() {
        int[] all = {-1, Integer.MIN_VALUE, Integer.MAX_VALUE, -2, 16, 12, 13, 400, 401, 999999, 1000000, -999999, -1000000};
        return all[pick(all.length)];
    }

    private static String blanks() {
        return pick(5) == 0 ? "  ".substring(pick(2)) : "";
    }

    private static String atom() {
        int k = pick(10);
        if (k < 5) {
            return oneOf("a", "b", "c", "d");
        }
        if (k < 8) {
            return oneOf("x", "y");
        }
        return oneOf("0", "1", "2", "3", "01", "00", "9", "10", "98", "99", "7");
    }

    private static String lineText() {
        int k = pick(12);
        if (k < 6) {
            return "set " + oneOf("a", "b", "c", "d", "a", "b") + blanks() + "=" + blanks() + sumText();
        }
        if (k < 9) {
            return "skip " + (1 + pick(pick(4) == 0 ? 9 : 3)) + blanks() + "if " + testText();
        }
        if (k < 11) {
            return "back" + blanks() + (1 + pick(pick(4) == 0 ? 9 : 3)) + " if " + testText();
        }
        return "end " + sumText();
    }

    private static String sumText() {
        return pick(4) == 0 ? atom() : atom() + blanks() + oneOf("+", "-", "*", "/", "%", "+", "-") + blanks() + atom();
    }

    private static String testText() {
        return atom() + blanks() + oneOf("<", ">", "=") + blanks() + atom();
    }

    /** A BODY that goes back so long as a variable that grows is small: it mostly ends, also where it would go back too far. */
    private static String loopText(int most) {
        String grows = oneOf("a", "b", "c");
        StringBuilder text = new StringBuilder();
        int left = Math.max(0, Math.min(most, 10) - 2);
        for (int i = pick(Math.min(left, 2) + 1); i > 0; i--, left--) {
            text.append(lineText()).append(";");
        }
        text.append("set ").append(grows).append("=").append(grows).append("+").append(oneOf("1", "1", "2", "x", "y"));
        for (int i = pick(Math.min(left, 2) + 1); i > 0; i--, left--) {
            text.append(";").append(lineText());
        }
        text.append(";back ").append(1 + pick(pick(2) == 0 ? 9 : 4)).append(" if ").append(grows).append("<").append(1 + pick(9));
        for (int i = pick(Math.min(left, 2) + 1); i > 0; i--, left--) {
            text.append(";").append(lineText());
        }
        return text.toString();
    }

    private static String bodyText(int most) {
        if (most > 1 && pick(3) == 0) {
            return loopText(most);
        }
        int n = 1 + pick(most);
        StringBuilder text = new StringBuilder(blanks());
        String last = lineText();
        for (int i = 0; i < n; i++) {
            last = pick(6) == 0 ? last : lineText();
            text.append(i == 0 ? "" : blanks() + ";" + blanks()).append(last);
        }
        return text.append(blanks()).toString();
    }

    private static String lawText(int deep) {
        StringBuilder text = new StringBuilder();
        int n = 1 + pick(3);
        for (int i = 0; i < n; i++) {
            text.append(i == 0 ? "" : oneOf(" or ", " and ", "  and  "));
            int k = pick(5);
            if (k == 0 && deep < 8) {
                text.append("not ").append(pick(2) == 0 ? "(" + lawText(deep + 2) + ")" : lawText(deep + 4));
            } else if (k == 1 && deep < 8) {
                text.append("(").append(lawText(deep + 1)).append(")");
            } else {
                text.append(oneOf("r", "r", "x", "y", "5", "12", "0001", "9999")).append(blanks())
                    .append(oneOf("<", ">", "=")).append(blanks()).append(oneOf("r", "x", "y", "0", "7", "300"));
            }
        }
        return text.toString();
    }

    /** Now and then a text is spoilt: a byte more, less or another. */
    private static String spoilt(String text, int often) {
        if (pick(often) != 0 || text.isEmpty()) {
            return text;
        }
        int at = pick(text.length());
        String byteMore = oneOf(" ", "a", "1", "0", ";", "=", "(", ")", "Z", "\u00e9", "\u0000", "+", "if", "10", "not ", "e");
        int k = pick(4);
        return k == 0 ? text.substring(0, at) : k == 1 ? text.substring(0, at) + byteMore + text.substring(at)
            : text.substring(0, at) + (k == 2 ? byteMore : "") + text.substring(at + 1);
    }

    private static String call;

    private static void feedText(MendBench bench, Model model, String text) {
        byte[] bytes = text.getBytes(StandardCharsets.ISO_8859_1);
        int length = Math.min(bytes.length, 400);
        for (int i = 0; i <= length; i += 20) {
            int[] n = new int[5];
            for (int k = 0; k < 20; k++) {
                n[k / 4] = n[k / 4] << 8 | (i + k < bytes.length ? bytes[i + k] & 255 : "a0 ;7+".charAt(pick(6)));
            }
            due(model.feed(n[0], n[1], n[2], n[3], n[4]), bench.feed(n[0], n[1], n[2], n[3], n[4]));
        }
        due(model.end(length) ? 1 : 0, bench.end(length) ? 1 : 0);
    }

    private static void due(long want, long got) {
        answers++;
        if (want != got) {
            wrong++;
            System.out.println(call + " answered " + got + ", due is " + want);
        }
    }

    /** Mostly an index below a size; now and then the size itself, or an odd number. */
    private static int index(int size) {
        return pick(12) == 0 ? odd() : pick(8) == 0 ? size : pick(Math.max(1, size));
    }

    private static int some(int n) {
        return pick(15) == 0 ? odd() : pick(n);
    }

    /** A call as numbers: its kind and its arguments. */
    private static int[] choose(Model m) {
        int[] often = {0, 1, 2, 3, 3, 4, 4, 4, 5, 5, 6, 6, 6, 7, 7, 7, 8, 8, 8, 9, 10, 12, 12, 12, 12, 12, 13, 13, 13, 14, 14,
            15, 16, 16, 17, 18, 18, 18, 18, 19, 19, 19, 19, 20, 21, 21, 21, 22, 22, 23, 23, 23, 23, 24, 25, 26, 26, 27, 28,
            28, 29, 29, 30, 31};
        int kind = often[pick(often.length)];
        int kept = m.s.kept.size();
        int mends = m.count(3);
        int lines = m.s.body.size();
        switch (kind) {
            case 0: return new int[] {0, pick(4) == 0 ? 10 : 1 + pick(6), pick(3)};
            case 1: return new int[] {1};
            case 2: return new int[] {2, some(pick(3) == 0 ? 16 : 8), some(pick(3) == 0 ? 16 : 8), dueFor()};
            case 3: return new int[] {3, some(16), some(16), pick(4) == 0 ? 1 : 0};
            case 4: return new int[] {4, index(m.s.runs.size()), some(8)};
            case 5: return new int[] {5, index(lines), pick(2)};
            case 6: return new int[] {6, some(4)};
            case 7: return new int[] {7, index(mends), some(5)};
            case 8: return new int[] {8, pick(4) == 0 ? -1 : index(mends), index(lines), some(7)};
            case 12: return new int[] {12, pick(3) == 0 ? 400 : some(120)};
            case 13: return new int[] {13, index(kept), some(4)};
            case 14: return new int[] {14, index(kept), some(16), some(16)};
            case 15: return new int[] {15, some(7)};
            case 16: return new int[] {16, pick(2)};
            case 17: return new int[] {17, some(16)};
            case 18: return new int[] {18, pick(2)};
            case 19: return new int[] {19, index(kept), pick(2)};
            case 21: return new int[] {21, pick(3) == 0 ? -1 : index(kept)};
            case 23: return new int[] {23, index(mends)};
            case 24: return new int[] {24, index(kept)};
            case 26: return new int[] {26, index(8), some(3)};
            case 27: return new int[] {27, index(8), pick(3) == 0 ? 0 : pick(2) == 0 ? odd() : pick(4)};
            case 29: return new int[] {29, some(14)};
            default: return new int[] {kind};
        }
    }

    private static final int NEXT_DUE = 7777777;

    /** Mostly what the program ends with that is sought in this run of calls, so that something stays alive. */
    private static int dueFor() {
        return pick(12) == 0 ? odd() : pick(12) == 0 ? pick(30) - 5 : NEXT_DUE;
    }

    private static java.util.List<Model.Line> sought = java.util.List.of();

    private static void seek(Model m) {
        sought = m.s.body;
        for (int i = pick(3); i > 0; i--) {
            java.util.List<Model.Mend> all = Model.singles(sought);
            sought = all.isEmpty() ? sought : all.get(pick(all.size())).whole();
        }
    }

    private static int soughtEnd(int x, int y) {
        int end = Model.endOf(sought, x, y);
        return end > 999999 ? 0 : end;
    }

    private static long onModel(Model m, int[] c, boolean second) {
        switch (c[0]) {
            case 0: return m.body(second);
            case 1: return m.law() ? 1 : 0;
            case 2: return m.run(c[1], c[2], c[3]);
            case 3: return m.ends(c[1], c[2], c[3] == 1);
            case 4: return m.look(c[1], c[2]);
            case 5: return m.done(c[1], c[2] == 1);
            case 6: return m.where(c[1]);
            case 7: return m.mend(c[1], c[2]);
            case 8: return m.line(c[1], c[2], c[3]);
            case 12: return m.tries(c[1]);
            case 13: return m.alive(c[1], c[2]);
            case 14: return m.aliveEnds(c[1], c[2], c[3]);
            case 15: return m.teach(c[1]);
            case 16: return m.first(c[1] == 1);
            case 17: m.box(c[1]); return 0;
            case 18: return m.input(c[1] == 1);
            case 19: return m.prove(c[1], c[2] == 1);
            case 20: return m.bar();
            case 21: return m.otherwise(c[1]);
            case 22: return m.heaps();
            case 23: return m.putIn(c[1]);
            case 24: return m.make(c[1]);
            case 25: return m.takeBack() ? 1 : 0;
            case 26: return m.row(c[1], c[2]);
            case 27: return m.tear(c[1], c[2]);
            case 28: return m.check();
            case 29: return m.count(c[1]);
            case 30: m.image(); return 0;
            case 31: return m.back() ? 1 : 0;
            default: return m.fault();
        }
    }

    private static long onBench(MendBench m, int[] c, boolean second) {
        switch (c[0]) {
            case 0: return m.body(second);
            case 1: return m.law() ? 1 : 0;
            case 2: return m.run(c[1], c[2], c[3]);
            case 3: return m.ends(c[1], c[2], c[3] == 1);
            case 4: return m.look(c[1], c[2]);
            case 5: return m.done(c[1], c[2] == 1);
            case 6: return m.where(c[1]);
            case 7: return m.mend(c[1], c[2]);
            case 8: return m.line(c[1], c[2], c[3]);
            case 12: return m.tries(c[1]);
            case 13: return m.alive(c[1], c[2]);
            case 14: return m.aliveEnds(c[1], c[2], c[3]);
            case 15: return m.teach(c[1]);
            case 16: return m.first(c[1] == 1);
            case 17: m.box(c[1]); return 0;
            case 18: return m.input(c[1] == 1);
            case 19: return m.prove(c[1], c[2] == 1);
            case 20: return m.bar();
            case 21: return m.otherwise(c[1]);
            case 22: return m.heaps();
            case 23: return m.putIn(c[1]);
            case 24: return m.make(c[1]);
            case 25: return m.takeBack() ? 1 : 0;
            case 26: return m.row(c[1], c[2]);
            case 27: return m.tear(c[1], c[2]);
            case 28: return m.check();
            case 29: return m.count(c[1]);
            case 30: m.image(); return 0;
            case 31: return m.back() ? 1 : 0;
            default: return m.fault();
        }
    }

    private static void both(MendBench bench, Model model, int[] c, boolean second) {
        String want = "";
        String got = "";
        long wantNumber = 0;
        long gotNumber = 0;
        try {
            wantNumber = onModel(model, c, second);
        } catch (RuntimeException e) {
            want = e.getClass().getName();
        }
        try {
            gotNumber = onBench(bench, c, second);
        } catch (RuntimeException e) {
            got = e.getClass().getName();
            thrown++;
            if (!e.getStackTrace()[0].getClassName().equals("MendBench")) {
                wrong++;
                System.out.println(call + ": the machine threw " + e);
            }
        }
        if (!want.equals(got)) {
            wrong++;
            System.out.println(call + " threw '" + got + "', due is '" + want + "'");
        }
        due(wantNumber, gotNumber);
    }

    private static void oneRun(int number) {
        seed = number * 7919L + 13;
        MendBench bench = new MendBench();
        Model model = new Model();
        int most = 1 + pick(pick(3) == 0 ? 10 : 4);
        int calls = 40 + pick(100);
        if (pick(10) != 0) {
            oneCall(bench, model, new int[] {0, most, 0}, number, -3);
        }
        for (int i = 0; i < pick(5); i++) {
            oneCall(bench, model, new int[] {2, pick(8), pick(8), NEXT_DUE}, number, -2);
        }
        if (pick(2) != 0) {
            oneCall(bench, model, new int[] {1}, number, -1);
        }
        for (int i = 0; i < calls && wrong < 20; i++) {
            oneCall(bench, model, choose(model), number, i);
        }
    }

    private static void oneCall(MendBench bench, Model model, int[] c, int number, int i) {
        call = "run " + number + " call " + i + " " + java.util.Arrays.toString(c);
        boolean second = c[0] == 0 && c[2] > 0;
        if (c[0] == 0) {
            String text = spoilt(bodyText(c[1]), 5);
            call = call + " " + text;
            feedText(bench, model, text);
        } else if (c[0] == 1) {
            String text = spoilt(lawText(0), 5);
            call = call + " " + text;
            feedText(bench, model, text);
        } else if (c[0] == 2 && c[3] == NEXT_DUE) {
            c[3] = soughtEnd(c[1], c[2]);
        }
        both(bench, model, c, second);
        if (c[0] < 2) {
            both(bench, model, new int[] {99}, false);
        }
        if (c[0] == 0 && !second) {
            seek(model);
        }
        if (c[0] == 9 || c[0] == 10) {
            for (int k = -1; k < 14; k++) {
                due(model.count(k), bench.count(k));
            }
        }
    }

    /** RUNS that are right by one MEND each, of a BODY: heaps, and the faults that they show. */
    private static void mendedRuns(int number) {
        seed = number * 104729L + 7;
        MendBench bench = new MendBench();
        Model model = new Model();
        oneCall(bench, model, new int[] {0, 3, 0}, number, -1);
        java.util.List<Model.Mend> all = Model.singles(model.s.body);
        int runs = all.isEmpty() ? 0 : pick(7);
        int few = 1 + pick(4);
        java.util.List<Integer> chosen = new java.util.ArrayList<>();
        for (int i = 0; i < few; i++) {
            chosen.add(pick(Math.max(1, all.size())));
        }
        for (int i = 0; i < runs; i++) {
            sought = pick(3) == 0 ? model.s.body : all.get(chosen.get(pick(few))).whole();
            oneCall(bench, model, new int[] {2, pick(5), pick(5), NEXT_DUE}, number, i);
            oneCall(bench, model, new int[] {22}, number, i);
            oneCall(bench, model, new int[] {23, pick(all.size())}, number, i);
            oneCall(bench, model, new int[] {6, pick(3)}, number, i);
        }
    }

    /** Each MEND that is tried, seen by its ROW, of a BODY with LINES that do nothing, or that are alike. */
    private static void seenTries(int number) {
        seed = number * 15485863L + 3;
        MendBench bench = new MendBench();
        Model model = new Model();
        oneCall(bench, model, new int[] {0, 2 + pick(5), 0}, number, -9);
        for (int i = pick(4); i > 0 && !model.s.body.isEmpty(); i--) {
            makeOut(bench, model, number, -i);
        }
        seek(model);
        for (int i = 1 + pick(3); i > 0; i--) {
            oneCall(bench, model, new int[] {2, pick(5), pick(5), NEXT_DUE}, number, -1);
        }
        oneCall(bench, model, new int[] {12, pick(pick(2) == 0 ? 400 : 100)}, number, -1);
        for (int i = 0; i < 20; i++) {
            oneCall(bench, model, new int[] {12, 8}, number, i);
            for (int row = 0; row < 8; row++) {
                oneCall(bench, model, new int[] {26, row, 1}, number, i);
            }
        }
        for (int i = 0; i < 30; i++) {
            oneCall(bench, model, new int[] {13, i, pick(3)}, number, i);
        }
    }

    /** All that RUNS tell of a BODY, mostly of one that goes back and ends. */
    private static void looked(int number) {
        seed = number * 32452843L + 11;
        MendBench bench = new MendBench();
        Model model = new Model();
        oneCall(bench, model, new int[] {0, 3 + pick(8), 0}, number, -9);
        int runs = 1 + pick(pick(2) == 0 ? 13 : 4);
        boolean oneFault = pick(2) == 0;
        seek(model);
        for (int i = 0; i < runs; i++) {
            if (!oneFault) {
                seek(model);
            }
            oneCall(bench, model, new int[] {2, pick(6), pick(6), NEXT_DUE}, number, -1);
        }
        for (int i = 0; i < runs; i++) {
            for (int what = 0; what < 7; what++) {
                oneCall(bench, model, new int[] {4, i, what}, number, i);
            }
        }
        for (int i = 0; i < 11; i++) {
            oneCall(bench, model, new int[] {5, i, 0}, number, i);
            oneCall(bench, model, new int[] {5, i, 1}, number, i);
        }
        for (int what = 0; what < 3; what++) {
            oneCall(bench, model, new int[] {6, what}, number, what);
            oneCall(bench, model, new int[] {3, odd(), odd(), 0}, number, what);
        }
    }

    /** One program after another is MADE, TAKEN BACK, or gone back to. */
    private static void oftenMade(int number) {
        seed = number * 49979687L + 5;
        MendBench bench = new MendBench();
        Model model = new Model();
        oneCall(bench, model, new int[] {0, 1 + pick(4), 0}, number, -1);
        for (int i = 0; i < 24; i++) {
            oneCall(bench, model, new int[] {12, pick(30)}, number, i);
            oneCall(bench, model, new int[] {24, index(model.s.kept.size())}, number, i);
            int k = pick(10);
            oneCall(bench, model, new int[] {k < 2 ? 25 : k == 2 ? 30 : k == 3 ? 31 : 9}, number, i);
            for (int line = 0; line < model.s.body.size(); line++) {
                oneCall(bench, model, new int[] {8, -1, line, pick(6)}, number, i);
            }
        }
        for (int i = 0; i < 8; i++) {
            oneCall(bench, model, new int[] {25}, number, i);
            oneCall(bench, model, new int[] {3, pick(16), pick(16), 0}, number, i);
            oneCall(bench, model, new int[] {9}, number, i);
        }
    }

    /** The TAPE grows and is cut, and a text is read from it. */
    private static void fedTape(int number) {
        seed = number * 67867967L + 1;
        MendBench bench = new MendBench();
        Model model = new Model();
        for (int i = 0; i < 40; i++) {
            call = "tape " + number + " call " + i;
            if (pick(3) != 0) {
                int[] n = new int[5];
                String text = oneOf("end 1;end 2;end 3;  ", "skip 3 if x<y;end 4;", "r<1 or not(r<8) and ", "                    ", "end 7 end 8 end 9 en");
                for (int k = 0; k < 20; k++) {
                    n[k / 4] = n[k / 4] << 8 | text.charAt(k);
                }
                due(model.feed(n[0], n[1], n[2], n[3], n[4]), bench.feed(n[0], n[1], n[2], n[3], n[4]));
            } else {
                int to = pick(4) == 0 ? odd() : pick(pick(2) == 0 ? 401 : model.tape.size() + 2);
                due(model.end(to) ? 1 : 0, bench.end(to) ? 1 : 0);
            }
            if (pick(16) == 0) {
                both(bench, model, new int[] {pick(2)}, pick(2) == 0);
                both(bench, model, new int[] {99}, false);
                due(model.count(0), bench.count(0));
                due(model.count(11), bench.count(11));
            }
        }
    }

    /** A LINE does nothing from now on: the one MEND that is kept then is MADE. */
    private static void makeOut(MendBench bench, Model model, int number, int i) {
        java.util.List<Integer> outs = new java.util.ArrayList<>();
        java.util.List<Model.Mend> all = Model.singles(model.s.body);
        for (int k = 0; k < all.size(); k++) {
            if (all.get(k).form() == 3) {
                outs.add(k);
            }
        }
        feedText(bench, model, "1=2");
        both(bench, model, new int[] {1}, false);
        if (!outs.isEmpty()) {
            oneCall(bench, model, new int[] {12, outs.get(pick(outs.size()))}, number, i);
            both(bench, model, new int[] {20}, false);
            oneCall(bench, model, new int[] {12, 1}, number, i);
            oneCall(bench, model, new int[] {24, 0}, number, i);
        }
    }

    public static void main(String[] args) {
        int from = args.length > 0 ? Integer.parseInt(args[0]) : 0;
        int to = args.length > 1 ? Integer.parseInt(args[1]) : 800;
        for (int i = from; i < to && wrong < 20; i++) {
            oneRun(i);
            mendedRuns(i);
            seenTries(i);
            looked(i);
            oftenMade(i);
            fedTape(i);
        }
        System.out.println(answers + " answers, " + thrown + " exceptions, " + wrong + " wrong");
        if (wrong != 0) {
            System.exit(1);
        }
    }
}
