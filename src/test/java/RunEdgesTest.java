/** The edges of what the document says of RUNS and of where a fault lies, a sentence each: promises 7 to 11, RUN and WHERE in Terms. */
public final class RunEdgesTest {
    private static final int DIVIDED = 2000001;
    private static final int BEYOND = 2000002;
    private static final int OVER = 2000003;

    public static void main(String[] args) {
        zeroAtFirst();
        skips();
        backs();
        ends();
        signs();
        towardsZero();
        divided();
        beyond();
        noWrapAround();
        over();
        overLines();
        inputsOfRuns();
        numbersOfRuns();
        twelveRuns();
        anyInput();
        looks();
        rightOrWrong();
        linesDone();
        doneOnce();
        doneWhereItEnds();
        blame();
        blameOfTen();
        Checks.finish();
    }

    private static void end(String text, int x, int y, int want) {
        MendBench b = Checks.withBody(text);
        Checks.due(text + " with " + x + ", " + y, want, () -> b.ends(x, y, false));
        MendBench second = new MendBench();
        Checks.putSecond(second, text);
        Checks.due("second " + text + " with " + x + ", " + y, want, () -> second.ends(x, y, true));
    }

    private static void zeroAtFirst() {
        Checks.of("A RUN: a to d are 0, then LINE by LINE from the first");
        for (String v : new String[] {"a", "b", "c", "d"}) {
            end("end " + v, 9, 9, 0);
            end("set " + v + " = " + v + " + 1;end " + v, 9, 9, 1);
            MendBench b = Checks.withBody("set " + v + " = " + v + " + x;end " + v);
            Checks.due("first " + v, 5, () -> b.ends(5, 0, false));
            Checks.due("0 again at first " + v, 7, () -> b.ends(7, 0, false));
        }
        end("set a = 1;set b = 2;set c = 3;set d = 4;end a", 0, 0, 1);
        end("set a = 1;set b = 2;set c = 3;set d = 4;end b", 0, 0, 2);
        end("set a = 1;set b = 2;set c = 3;set d = 4;end c", 0, 0, 3);
        end("set a = 1;set b = 2;set c = 3;set d = 4;end d", 0, 0, 4);
    }

    private static void skips() {
        Checks.of("skip: if TEST, COUNT LINES more behind this one are left out (behind the last one: the RUN is at its end)");
        String four = "set a = a + 1;set a = a + 2;set a = a + 4;set a = a + 8";
        end("skip 1 if x = 0;" + four, 0, 0, 14);
        end("skip 2 if x = 0;" + four, 0, 0, 12);
        end("skip 3 if x = 0;" + four, 0, 0, 8);
        end("skip 4 if x = 0;" + four, 0, 0, 0);
        end("skip 5 if x = 0;" + four, 0, 0, 0);
        end("skip 9 if x = 0;" + four, 0, 0, 0);
        end("skip 4 if x = 0;" + four, 1, 0, 15);
        end(four + ";skip 1 if x = 0", 0, 0, 15);
        end(four + ";skip 1 if x = 0;end 99", 0, 0, 15);
        end(four + ";skip 1 if x = 0;end 99", 1, 0, 99);
        end("skip 8 if x = 0;end 1;end 2;end 3;end 4;end 5;end 6;end 7;end 8;end 9", 0, 0, 9);
        end("skip 9 if x = 0;end 1;end 2;end 3;end 4;end 5;end 6;end 7;end 8;end 9", 0, 0, 0);
        end("set a = 5;skip 9 if x = 0;end 2;end 3;end 4;end 5;end 6;end 7;end 8;end 9", 0, 0, 5);
    }

    private static void backs() {
        Checks.of("back: if TEST, it goes on COUNT LINES ahead of this one (the first one at least)");
        // a tells how often the first LINE was done, b the second one, c the third one
        String three = "set a = a + 1;set b = b + 10;set c = c + 1;";
        String sum = ";set d = a * 10;set d = d + b;set d = d * 10;end d + c";
        end(three + "back 1 if c < 3" + sum, 0, 0, (10 + 10) * 10 + 3);
        end(three + "back 2 if c < 3" + sum, 0, 0, (10 + 30) * 10 + 3);
        end(three + "back 3 if c < 3" + sum, 0, 0, (30 + 30) * 10 + 3);
        end(three + "back 4 if c < 3" + sum, 0, 0, (30 + 30) * 10 + 3);
        end(three + "back 9 if c < 3" + sum, 0, 0, (30 + 30) * 10 + 3);
        end(three + "back 1 if c < 1" + sum, 0, 0, (10 + 10) * 10 + 1);
        end("back 1 if x = 1;end 7", 0, 0, 7);
        end("back 1 if x = 1;end 7", 1, 0, OVER);
        end("back 9 if x = 1;end 7", 1, 0, OVER);
        end("set a = a + x;set b = 1;set b = 1;set b = 1;set b = 1;set b = 1;set b = 1;set b = 1;set b = 1;back 9 if a < 4", 2, 0, 4);
        end("set a = a + 1;set b = b + x;set b = b + 0;set b = b + 0;set b = b + 0;set b = b + 0;set b = b + 0;set b = b + 0;"
            + "set b = b + 0;back 8 if b < 4", 2, 0, 1);
        Checks.of("back: the first one at least, and nothing is done ahead of it");
        for (int count = 2; count <= 9; count++) {
            int c = count;
            MendBench b = Checks.withRuns("set a=a+1;set b=x;back " + count + " if a<4;end a", 0, 0, 4);
            Checks.due("lines done, back " + c, 13, () -> b.look(0, 5));
            MendBench first = Checks.withRuns("back " + count + " if x=1;end 7", 1, 0, 7);
            Checks.due("done a hundred times, back " + c, 100, () -> first.look(0, 5));
            Checks.due("but the first one none, back " + c, 0, () -> first.done(1, true));
        }
    }

    private static void ends() {
        Checks.of("end: it ends with the SUM. Behind the last LINE it ends with a");
        end("end 8;end 9", 0, 0, 8);
        end("end x - y", 3, 5, -2);
        end("end 99", 0, 0, 99);
        end("set a = 4;set b = 5", 0, 0, 4);
        end("set b = 5", 0, 0, 0);
        end("skip 1 if 1 = 2", 3, 4, 0);
        end("set a = 4;end a + 1;set a = 9", 0, 0, 5);
        end("end 0 - 1", 0, 0, -1);
    }

    private static void signs() {
        Checks.of("TEST: ATOM SIGN ATOM: at less, the same and more");
        int[][] want = {{1, 0, 0}, {0, 0, 1}, {0, 1, 0}};
        for (int sign = 0; sign < 3; sign++) {
            for (int k = -1; k <= 1; k++) {
                int skipped = want[sign][k + 1];
                end("skip 1 if x " + "<>=".charAt(sign) + " y;end 0;end 1", 5 + k, 5, skipped);
                end("skip 1 if x " + "<>=".charAt(sign) + " y;end 0;end 1", -5 + k, -5, skipped);
                end("set b = x;set c = 5;back 2 if b " + "<>=".charAt(sign) + " c;end 1", 5 + k, 0, skipped == 1 ? OVER : 1);
            }
        }
        end("skip 1 if x < y;end 0;end 1", Integer.MIN_VALUE, Integer.MAX_VALUE, 1);
        end("skip 1 if x > y;end 0;end 1", Integer.MAX_VALUE, Integer.MIN_VALUE, 1);
        end("skip 1 if x = y;end 0;end 1", Integer.MIN_VALUE, Integer.MIN_VALUE, 1);
    }

    private static void towardsZero() {
        Checks.of("/ and % are as of this machine (towards 0)");
        int[][] rows = {{7, 2, 3, 1}, {-7, 2, -3, -1}, {7, -2, -3, 1}, {-7, -2, 3, -1}, {1, 2, 0, 1}, {-1, 2, 0, -1}, {6, 3, 2, 0},
            {-6, 3, -2, 0}, {0, 5, 0, 0}, {0, -5, 0, 0}, {5, 1, 5, 0}, {5, -1, -5, 0}};
        for (int[] r : rows) {
            end("end x / y", r[0], r[1], r[2]);
            end("end x % y", r[0], r[1], r[3]);
        }
    }

    private static void divided() {
        Checks.of("DIVIDED: by 0");
        for (String op : new String[] {"/", "%"}) {
            end("end x " + op + " y", 5, 0, DIVIDED);
            end("end x " + op + " y", 0, 0, DIVIDED);
            end("end x " + op + " y", -5, 0, DIVIDED);
            end("end x " + op + " y", 0, 1, 0);
            end("end x " + op + " y", Integer.MAX_VALUE, 0, DIVIDED);
            end("end x " + op + " 0", 5, 0, DIVIDED);
            end("set b = 3 " + op + " c;end 1", 5, 0, DIVIDED);
            end("skip 1 if x = 5;set b = 3 " + op + " c;end 1", 5, 0, 1);
        }
        end("end x * 0", 5, 0, 0);
    }

    private static void beyond() {
        Checks.of("BEYOND: a SUM is above 999999 or below - 999999");
        int[][] rows = {{999999, 0, 999999}, {1000000, 0, BEYOND}, {-999999, 0, -999999}, {-1000000, 0, BEYOND}, {999998, 1, 999999},
            {999999, 1, BEYOND}, {-999999, -1, BEYOND}, {-999998, -1, -999999}, {1000000, -1, 999999}, {-1000000, 1, -999999}};
        for (int[] r : rows) {
            end("end x + y", r[0], r[1], r[2]);
            end("set a = x + y", r[0], r[1], r[2]);
            end("set d = x + y;end 3", r[0], r[1], r[2] == BEYOND ? BEYOND : 3);
        }
        end("end x", 999999, 0, 999999);
        end("end x", 1000000, 0, BEYOND);
        end("end y", 0, -999999, -999999);
        end("end y", 0, -1000000, BEYOND);
        end("set b = x;end 1", 1000000, 0, BEYOND);
        end("set b = x;end 1", -999999, 0, 1);
        end("end x - y", -999999, 1, BEYOND);
        end("end x - y", -999998, 1, -999999);
        end("end x * y", 1000, 1000, BEYOND);
        end("end x * y", 999, 1001, 999999);
        end("end x * y", -999, 1001, -999999);
        end("end x * y", -1000, 1000, BEYOND);
        end("end x / y", 1999999, 2, 999999);
        end("end x / y", 2000000, 2, BEYOND);
        end("end x % y", 1999999, 1000000, 999999);
        end("end x % y", 1999999, 2000000, BEYOND);
        Checks.of("BEYOND: of a SUM alone, not of an input in a TEST or of a SUM's ATOM");
        end("skip 1 if x > y;end 0;end 1", 1000001, 1000000, 1);
        end("end x - x", Integer.MAX_VALUE, 0, 0);
        end("end x / x", Integer.MIN_VALUE, 0, 1);
    }

    private static void noWrapAround() {
        Checks.of("BEYOND: a SUM is above 999999 or below - 999999: without a wrap-around");
        int min = Integer.MIN_VALUE;
        int max = Integer.MAX_VALUE;
        end("end x + y", max, max, BEYOND);
        end("end x + y", min, min, BEYOND);
        end("end x + y", min, max, -1);
        end("end x - y", min, max, BEYOND);
        end("end x - y", min, 1, BEYOND);
        end("end x - y", max, -1, BEYOND);
        end("end 0 - x", min, 0, BEYOND);
        end("end x * y", 65536, 65536, BEYOND);
        end("end x * y", 65536, -65536, BEYOND);
        end("end x * y", min, 2, BEYOND);
        end("end x * y", min, min, BEYOND);
        end("end x * y", max, max, BEYOND);
        end("end x * y", min, 0, 0);
        end("end x / y", min, -1, BEYOND);
        end("end x % y", min, -1, 0);
        end("end x / y", min, max, -1);
        end("end x % y", min, max, -1);
        end("end x / y", max, min, 0);
        end("end x % y", 5, min, 5);
    }

    private static void over() {
        Checks.of("OVER: a 101st LINE would be done (each that is come to counts)");
        end("set a = a + 1;back 1 if a < 50", 0, 0, 50);
        end("set a = a + 1;back 1 if a < 51", 0, 0, OVER);
        end("set a = a + 1;back 1 if a < 49;end a", 0, 0, 49);
        end("set a = a + 1;back 1 if a < 50;end a", 0, 0, OVER);
        end("set b = 1;set a = a + 1;back 1 if a < 49;end a", 0, 0, 49);
        end("set b = 1;set a = a + 1;back 1 if a < 49;set b = 1;end a", 0, 0, OVER);
        end("set b = 1;set a = a + 1;back 1 if a < 49;set b = 1", 0, 0, 49);
        Checks.of("OVER: ahead of what the 101st LINE would be");
        end("set a = a + 1;back 1 if a < 50;end 1 / 0", 0, 0, OVER);
        end("set a = a + 1;back 1 if a < 49;end 1 / 0", 0, 0, DIVIDED);
        end("set b = 1;set a = a + 1;back 1 if a < 49;set c = 1 / 0", 0, 0, DIVIDED);
        end("set a = a + 1;back 1 if a < 50;skip 9 if 0 = 0", 0, 0, OVER);
        end("back 1 if 0 = 0", 0, 0, OVER);
        end("skip 1 if 0 = 1;back 1 if 0 = 0;end 1", 0, 0, OVER);
        Checks.of("OVER: a LINE that does nothing is come to");
        MendBench b = Checks.withBody("set b = 9;set a = a + 1;back 2 if a < x;end a");
        b.run(0, 0, 1);
        b.run(7, 0, 7);
        b.tries(8);
        // V is a: not alive; V is c, V is d, 8, 10, and OUT of the first LINE
        Checks.due("out", 5, () -> b.alive(4, 0));
        Checks.due("made", 1, () -> b.make(4));
        Checks.due("33 times three LINES, and the end", 33, () -> b.ends(33, 0, false));
        Checks.due("34 times", OVER, () -> b.ends(34, 0, false));
        Checks.due("lines that were done", 22, () -> b.look(1, 5));
    }

    private static void overLines() {
        Checks.of("look 5: how many LINES were done (each time); OVER: the 101st is not done");
        MendBench b = Checks.withRuns("set a = a + 1;back 1 if a < x;end a", 0, 0, 1, 15, 0, 15);
        Checks.due("three lines", 3, () -> b.look(0, 5));
        Checks.due("thirty and one", 31, () -> b.look(1, 5));
        MendBench over = Checks.withRuns("set a = a + 1;back 1 if a < 50;end a", 0, 0, 50);
        Checks.due("a hundred lines", 100, () -> over.look(0, 5));
        Checks.due("over", OVER, () -> over.look(0, 3));
        Checks.due("the 101st is not done", 0, () -> over.done(2, true));
        Checks.due("those ahead of it are", 1, () -> over.done(1, true));
        MendBench full = Checks.withRuns("set b = 1;set a = a + 1;back 1 if a < 49;end a", 0, 0, 49);
        Checks.due("all hundred", 100, () -> full.look(0, 5));
        Checks.due("right at the hundredth", 1, () -> full.look(0, 4));
        Checks.due("the hundredth is done", 1, () -> full.done(3, false));
        Checks.of("look 5: behind the last LINE nothing is done");
        String[] texts = {"set a=5", "set a=5;set b=6", "skip 1 if 0=0", "skip 9 if 0=0;end 1", "skip 1 if 0=0;end 1", "skip 1 if 1=0",
            "back 1 if 1=0", "set a=5;skip 1 if 0=0;set a=6;set c=7", "end 1", "end 1;end 2"};
        int[] lines = {1, 2, 1, 1, 1, 1, 1, 3, 1, 1};
        for (int i = 0; i < texts.length; i++) {
            int k = i;
            MendBench b2 = Checks.withRuns(texts[i], 0, 0, 0);
            Checks.due(texts[i], lines[i], () -> b2.look(0, 5));
        }
    }

    private static void inputsOfRuns() {
        Checks.of("run: an input (0 to 15 each); IllegalArgumentException: the input is none");
        int[] no = {-1, 16, Integer.MIN_VALUE, Integer.MAX_VALUE};
        for (int n : no) {
            MendBench b = Checks.withBody("end x");
            Checks.due("x " + n, "IllegalArgumentException", () -> b.run(n, 0, 0));
            Checks.due("y " + n, "IllegalArgumentException", () -> b.run(0, n, 0));
            Checks.due("no run", 0, () -> b.count(1));
        }
        MendBench b = Checks.withBody("end x");
        int[][] yes = {{0, 0}, {15, 0}, {0, 15}, {15, 15}};
        for (int i = 0; i < yes.length; i++) {
            int k = i;
            Checks.due("run " + i, i, () -> b.run(yes[k][0], yes[k][1], 0));
            Checks.due("x of " + i, yes[i][0], () -> b.look(k, 0));
            Checks.due("y of " + i, yes[i][1], () -> b.look(k, 1));
        }
        Checks.of("run: the BOX is no bound of RUNS");
        b.box(0);
        Checks.due("an input outside of the box", 4, () -> b.run(9, 9, 0));
    }

    private static void numbersOfRuns() {
        Checks.of("run: IllegalArgumentException: the number is not - 999999 to 999999");
        for (int n : new int[] {1000000, -1000000, DIVIDED, BEYOND, OVER, Integer.MIN_VALUE, Integer.MAX_VALUE}) {
            MendBench b = new MendBench();
            Checks.due("number " + n, "IllegalArgumentException", () -> b.run(0, 0, n));
            Checks.due("no run", 0, () -> b.count(1));
        }
        int[] yes = {999999, -999999, 0, -1};
        MendBench b = Checks.withBody("end 0");
        for (int i = 0; i < yes.length; i++) {
            int k = i;
            Checks.due("run " + i, i, () -> b.run(0, 0, yes[k]));
            Checks.due("number of " + i, yes[i], () -> b.look(k, 2));
        }
    }

    private static void twelveRuns() {
        Checks.of("run: at most 12, numbered from 0 on; UnsupportedOperationException: there are 12");
        MendBench b = new MendBench();
        for (int i = 0; i < 12; i++) {
            int k = i;
            Checks.due("run " + i, i, () -> b.run(k, 15 - k, 7));
        }
        Checks.due("the 13th", "UnsupportedOperationException", () -> b.run(3, 3, 3));
        Checks.due("a wrong 13th: what is told first", "IllegalArgumentException", () -> b.run(16, 3, 3));
        Checks.due("a wrong number of a 13th", "IllegalArgumentException", () -> b.run(3, 3, 1000000));
        Checks.due("12 are there", 12, () -> b.count(1));
        Checks.putBody(b, "end x");
        for (int i = 0; i < 12; i++) {
            int k = i;
            Checks.due("x of " + i, i, () -> b.look(k, 0));
            Checks.due("y of " + i, 15 - i, () -> b.look(k, 1));
            Checks.due("right of " + i, i == 7 ? 1 : 0, () -> b.look(k, 4));
        }
        Checks.due("no run 12", "IndexOutOfBoundsException", () -> b.look(12, 0));
        Checks.due("11 are wrong", 11, () -> b.count(2));
    }

    private static void anyInput() {
        Checks.of("ends: END of the BODY (second false) or the SECOND with any input; IllegalStateException (of the SECOND likewise)");
        MendBench b = Checks.withBody("end x - y");
        Checks.due("below 0", -12, () -> b.ends(-4, 8, false));
        Checks.due("above 15", 5, () -> b.ends(100000, 99995, false));
        Checks.due("no second", "IllegalStateException", () -> b.ends(0, 0, true));
        MendBench second = new MendBench();
        Checks.putSecond(second, "end y - x");
        Checks.due("of the second", 12, () -> second.ends(-4, 8, true));
        Checks.due("no body", "IllegalStateException", () -> second.ends(0, 0, false));
    }

    private static void looks() {
        Checks.of("look: of several exceptions the one told first: no RUN, then no BODY, then another what");
        MendBench none = new MendBench();
        Checks.due("no run, no body, no what", "IndexOutOfBoundsException", () -> none.look(0, 7));
        none.run(1, 2, 3);
        Checks.due("no body, no what", "IllegalStateException", () -> none.look(0, 7));
        Checks.due("no body", "IllegalStateException", () -> none.look(0, 0));
        Checks.due("run -1", "IndexOutOfBoundsException", () -> none.look(-1, 0));
        Checks.due("run 1", "IndexOutOfBoundsException", () -> none.look(1, 0));
        MendBench b = Checks.withRuns("set b = 1;set a = x / y;end a", 6, 3, 2, 6, 0, 6);
        int[][] want = {{6, 3, 2, 2, 1, 3, 6}, {6, 0, 6, DIVIDED, 0, 2, 2}};
        for (int r = 0; r < 2; r++) {
            for (int w = 0; w < 7; w++) {
                int run = r;
                int what = w;
                Checks.due("look " + r + " " + w, want[r][w], () -> b.look(run, what));
            }
        }
        for (int what : new int[] {-1, 7, Integer.MIN_VALUE, Integer.MAX_VALUE}) {
            Checks.due("what " + what, "NoSuchElementException", () -> b.look(0, what));
            Checks.due("run 2, what " + what, "IndexOutOfBoundsException", () -> b.look(2, what));
        }
        for (int run : new int[] {-1, 2, 3, 4, 10, 11, 12, Integer.MIN_VALUE, Integer.MAX_VALUE}) {
            Checks.due("run " + run, "IndexOutOfBoundsException", () -> b.look(run, 0));
        }
    }

    private static void rightOrWrong() {
        Checks.of("RIGHT: it ends with the number that it must; else WRONG");
        MendBench b = Checks.withRuns("end 9 / x", 3, 0, 3, 2, 0, 4, 2, 0, 5, 2, 0, 3, 0, 0, 0, 10, 0, 0);
        int[] right = {1, 1, 0, 0, 0, 1};
        for (int i = 0; i < right.length; i++) {
            int k = i;
            Checks.due("run " + i, right[i], () -> b.look(k, 4));
        }
        Checks.due("wrong ones", 3, () -> b.count(2));
        MendBench one = Checks.withRuns("end 9 * x", 1, 0, 8);
        Checks.due("a run that is not told is neither: 0 0 would be right", 1, () -> one.count(2));
        Checks.due("none is right", 0, () -> one.done(0, false));
        Checks.putBody(b, "end 3");
        Checks.due("wrong ones of another body", 4, () -> b.count(2));
        Checks.due("right now", 1, () -> b.look(3, 4));
    }

    private static void linesDone() {
        Checks.of("done: IndexOutOfBoundsException: there is no such LINE");
        MendBench none = new MendBench();
        Checks.due("no body", "IndexOutOfBoundsException", () -> none.done(0, false));
        none.run(0, 0, 0);
        Checks.due("a run, no body", "IndexOutOfBoundsException", () -> none.done(0, true));
        MendBench b = Checks.withBody("set a = 1;end a");
        Checks.due("without a run", 0, () -> b.done(1, false));
        Checks.due("without a wrong run", 0, () -> b.done(1, true));
        for (int line : new int[] {-1, 2, 10, 32, Integer.MIN_VALUE, Integer.MAX_VALUE}) {
            Checks.due("line " + line, "IndexOutOfBoundsException", () -> b.done(line, line > 0));
        }
        MendBench ten = Checks.withRuns("set a = 1;set a = 1;set a = 1;set a = 1;set a = 1;set a = 1;set a = 1;set a = 1;set a = 1;end x", 1, 0, 1);
        Checks.due("line 9", 1, () -> ten.done(9, false));
        Checks.due("line 10", "IndexOutOfBoundsException", () -> ten.done(10, false));
    }

    private static void doneOnce() {
        Checks.of("DONE: in how many RIGHT, or WRONG, RUNS a LINE is done at least once");
        MendBench b = Checks.withRuns("set a = a + 1;back 1 if a < x;skip 1 if y = 0;set b = 1;end a", 5, 0, 5, 3, 1, 3, 1, 1, 9, 9, 0, 8, 1, 0, 0);
        int[] right = {2, 2, 2, 1, 2};
        int[] wrong = {3, 3, 3, 1, 3};
        for (int i = 0; i < 5; i++) {
            int line = i;
            Checks.due("right " + i, right[i], () -> b.done(line, false));
            Checks.due("wrong " + i, wrong[i], () -> b.done(line, true));
        }
        Checks.putBody(b, "end y + 8");
        Checks.due("two others are right by another body", 2, () -> b.done(0, false));
        Checks.due("three are wrong by it", 3, () -> b.done(0, true));
        Checks.putBody(b, "end 99");
        Checks.due("none is right", 0, () -> b.done(0, false));
        Checks.due("all are wrong", 5, () -> b.done(0, true));
        MendBench twelve = Checks.withBody("end 0");
        for (int i = 0; i < 12; i++) {
            twelve.run(i, 0, i % 3 == 0 ? 0 : 1);
        }
        Checks.due("four of twelve", 4, () -> twelve.done(0, false));
        Checks.due("eight of twelve", 8, () -> twelve.done(0, true));
    }

    private static void doneWhereItEnds() {
        Checks.of("DONE: the LINE at which a RUN ends, DIVIDED and BEYOND too, and none behind it");
        MendBench b = Checks.withRuns("set b = 1;set c = b / x;set d = 99 * y;set d = d * d;set d = d * d;end d", 0, 0, 1, 1, 15, 1, 1, 0, 0);
        int[] wrong = {2, 2, 1, 1, 0, 0};
        for (int i = 0; i < 6; i++) {
            int line = i;
            Checks.due("wrong " + i, wrong[i], () -> b.done(line, true));
            Checks.due("right " + i, 1, () -> b.done(line, false));
        }
        Checks.due("divided at the second", 2, () -> b.look(0, 5));
        Checks.due("beyond at the fourth", 4, () -> b.look(1, 5));
    }

    private static void blame() {
        Checks.of("BLAME: the LINES done in most WRONG ones, and of these in the fewest RIGHT ones (0 without a WRONG one)");
        String text = "skip 1 if x < 3;set a = 1;skip 1 if y < 3;set b = 1;end 7";
        MendBench b = Checks.withRuns(text);
        Checks.due("without runs", 0, () -> b.where(0));
        b.run(0, 0, 7);
        Checks.due("without a wrong one", 0, () -> b.where(0));
        b.run(5, 0, 8);
        // lines 0 1 2 4 are done in the wrong one, of these line 1 in no right one
        Checks.due("fewest right", 0b00010, () -> b.where(0));
        b.run(5, 0, 7);
        Checks.due("all in as many, but for line 1", 0b00010, () -> b.where(0));
        b.run(5, 0, 7);
        b.run(0, 5, 8);
        // lines 0 2 4 are done in both wrong ones, in three right ones; line 1 in two right, one wrong; line 3 in one wrong
        Checks.due("most wrong first", 0b10101, () -> b.where(0));
        MendBench all = Checks.withRuns(text, 5, 5, 0);
        Checks.due("all alike", 0b11111, () -> all.where(0));
        MendBench later = Checks.withRuns("skip 2 if x = 0;set b = 1;set a = 2;end a", 0, 0, 0, 1, 0, 3);
        Checks.due("both lines that no right one does", 0b0110, () -> later.where(0));
    }

    private static void blameOfTen() {
        Checks.of("BLAME: as bits, of ten LINES");
        MendBench b = Checks.withRuns("skip 8 if x = 0;end 1;end 2;end 3;end 4;end 5;end 6;end 7;end 8;end 9", 1, 0, 1, 0, 0, 8);
        Checks.due("the last of ten", 1 << 9, () -> b.where(0));
        b.run(0, 0, 9);
        Checks.due("in fewer right ones than the first", 1 << 9, () -> b.where(0));
        MendBench none = new MendBench();
        Checks.due("no body", "IllegalStateException", () -> none.where(0));
        Checks.due("no body, another what", "IllegalStateException", () -> none.where(3));
        for (int what : new int[] {-1, 3, Integer.MIN_VALUE, Integer.MAX_VALUE}) {
            Checks.due("what " + what, "NoSuchElementException", () -> b.where(what));
        }
        MendBench empty = Checks.withBody("end 1");
        Checks.due("another what without runs", "NoSuchElementException", () -> empty.where(3));
    }
}
