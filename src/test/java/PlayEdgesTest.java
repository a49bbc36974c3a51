/** The edges of TWO PLAY, a sentence each: promises 19 to 27, TWO PLAY in Terms. */
public final class PlayEdgesTest {
    public static void main(String[] args) {
        boxTold();
        near();
        nearAtTheEdge();
        nearNearest();
        nearOfSeveral();
        asked();
        askedOfSeveral();
        ofFewer();
        ofThirty();
        ofThoseLeft();
        lawHolds();
        lawBindings();
        provedAndBroken();
        proveRefused();
        barred();
        barRefused();
        otherwise();
        otherwiseRefused();
        heaps();
        heapsKeepRight();
        heapsOfTwelve();
        putInHarmless();
        putInJudged();
        putInWholeBox();
        putInRefused();
        made();
        takenBack();
        makeRefused();
        Checks.finish();
    }

    private static void boxTold() {
        Checks.of("box: inputs x, y 0 to a told number (0 to 15; 7 at first); IllegalArgumentException: it is none");
        MendBench b = new MendBench();
        Checks.due("at first", 7, () -> b.count(12));
        for (int n : new int[] {-1, 16, Integer.MIN_VALUE, Integer.MAX_VALUE}) {
            Checks.due("box " + n, "IllegalArgumentException", () -> {
                b.box(n);
                return 0;
            });
            Checks.due("as it was", 7, () -> b.count(12));
        }
        for (int n = 0; n <= 15; n++) {
            b.box(n);
            int told = n;
            Checks.due("box " + n, told, () -> b.count(12));
        }
        // 0 1 breaks r = 0 by y, as do all with y but 0
        for (int n = 0; n <= 15; n++) {
            MendBench y = Checks.withBody("end 0");
            y.tries(1);
            Checks.putLaw(y, "x = 99");
            y.box(n);
            int all = (n + 1) * (n + 1);
            Checks.due("inputs of box " + n, all, () -> y.prove(0, false));
        }
        MendBench first = Checks.withBody("end 0");
        first.tries(1);
        Checks.putLaw(first, "x < 7 and y < 7");
        Checks.due("inputs with 7 at first", 15, () -> first.prove(0, false));
        Checks.putLaw(first, "x < 8 and y < 8");
        Checks.due("none above 7 at first", 0, () -> first.prove(0, false));
    }

    /** x + 0's kept ones are apart where x is not 0 or y is not 0. */
    private static void near() {
        Checks.of("NEAR: of all inputs of the BOX on which two kept ALIVE ones are APART that which is nearest to a RUN's; none");
        MendBench b = Checks.withBody("end x");
        b.tries(4);
        Checks.due("a b c d are never apart", -1, () -> b.input(false));
        b.tries(1);
        // y is apart where y is not 0
        b.box(0);
        Checks.due("not in the box of one input", -1, () -> b.input(false));
        b.box(1);
        Checks.due("at 0 1", 1, () -> b.input(false));
        b.run(15, 0, 0);
        Checks.due("the edge of the box is nearest", 16 + 1, () -> b.input(false));
        b.box(15);
        Checks.due("of the whole box", 16 * 15 + 1, () -> b.input(false));
        b.box(14);
        Checks.due("outside of the box by one", 16 * 14 + 1, () -> b.input(false));
    }

    private static void nearAtTheEdge() {
        Checks.of("NEAR, ASKED: of all inputs of the BOX, the last of x and of y too");
        // a b c d / 14, x / 15 and OUT: apart where x is 15
        MendBench x = Checks.withRuns("end x / 14", 14, 14, 0, 0, 0, 0, 1, 0, 0);
        x.tries(12);
        Checks.due("six", 6, () -> x.count(6));
        x.box(14);
        Checks.due("not near up to 14", -1, () -> x.input(false));
        Checks.due("asked up to 14: a run itself", 0, () -> x.input(true));
        x.box(15);
        Checks.due("near at 15 14", 16 * 15 + 14, () -> x.input(false));
        Checks.due("asked at 15 14", 16 * 15 + 14, () -> x.input(true));
        MendBench y = Checks.withRuns("end y / 14", 14, 14, 0, 0, 0, 0, 0, 1, 0);
        y.tries(12);
        y.box(14);
        Checks.due("not near up to 14 of y", -1, () -> y.input(false));
        y.box(15);
        Checks.due("near at 14 15", 16 * 14 + 15, () -> y.input(false));
        Checks.due("asked at 14 15", 16 * 14 + 15, () -> y.input(true));
        // apart where x is 0, and where y is 0
        MendBench least = Checks.withRuns("skip 1 if x > 0;end 2;end 2", 1, 0, 2);
        least.tries(400);
        least.box(0);
        Checks.due("near at 0 0", 0, () -> least.input(false));
    }

    private static void nearNearest() {
        Checks.of("NEAR: nearest to a RUN's (steps along x and y; 0 without RUNS)");
        MendBench b = Checks.withBody("end x");
        b.tries(5);
        Checks.due("without runs the least x, then the least y", 1, () -> b.input(false));
        b.run(5, 0, 0);
        Checks.due("one step from 5 0", 16 * 5 + 1, () -> b.input(false));
        b.run(2, 0, 0);
        Checks.due("as near to 2 0: the least x", 16 * 2 + 1, () -> b.input(false));
        // b / 35 and b / 37 stay, apart at 5 7, 7 5 and 6 6: each two steps from 7 7, 6 6 but one by a king's step
        MendBench steps = Checks.withRuns("set b = x * y;end b / 36", 7, 7, 1, 7, 0, 0, 0, 7, 0);
        steps.tries(mendsOf(steps));
        Checks.due("two are kept", 2, () -> steps.count(6));
        Checks.due("steps along x and y", 16 * 5 + 7, () -> steps.input(false));
        Checks.due("of asked too", 16 * 5 + 7, () -> steps.input(true));
        steps.run(6, 5, 0);
        Checks.due("6 6 is one step from 6 5", 16 * 6 + 6, () -> steps.input(false));
        Checks.due("asked one step from 6 5", 16 * 6 + 6, () -> steps.input(true));
        steps.run(7, 4, 0);
        Checks.due("7 5 is as near: the least x", 16 * 6 + 6, () -> steps.input(false));
        steps.run(5, 6, 0);
        Checks.due("5 7 is as near", 16 * 5 + 7, () -> steps.input(false));
        steps.box(6);
        Checks.due("6 6 alone is in the box", 16 * 6 + 6, () -> steps.input(false));
        steps.box(5);
        Checks.due("none is in the box", -1, () -> steps.input(false));
        Checks.due("asked of a box where all are alike: nearest, 5 6 is outside", 16 * 5 + 5, () -> steps.input(true));
    }

    private static int mendsOf(MendBench b) {
        return b.count(3);
    }

    private static void nearOfSeveral() {
        Checks.of("NEAR: of several the least x, then the least y");
        MendBench b = Checks.withRuns("end x + y", 3, 3, 6);
        // by 3 3 alike: y + y, x + x: apart where x is not y
        b.tries(15);
        Checks.due("two are kept", 2, () -> b.count(6));
        Checks.due("2 3 is the least of those one step off", 16 * 2 + 3, () -> b.input(false));
        b.box(2);
        Checks.due("1 2 ahead of 2 1, three steps off", 16 * 1 + 2, () -> b.input(false));
        b.box(3);
        Checks.due("2 3 at the edge", 16 * 2 + 3, () -> b.input(false));
        MendBench least = Checks.withRuns("end x + y", 0, 0, 0, 3, 3, 6);
        least.tries(15);
        Checks.due("0 1, one step from 0 0", 1, () -> least.input(false));
    }

    private static void asked() {
        Checks.of("ASKED: that input of the BOX on which the greatest number of kept ALIVE ones that end alike is the least");
        MendBench b = Checks.withBody("end x + y");
        b.tries(15);
        // a b c d + y: y; y + y; x + a b c d: x; x + x; x - y; x * y; x / y; x % y; out 0
        b.box(0);
        Checks.due("0 0: 13 alike, and two divided", 0, () -> b.input(true));
        b.box(1);
        // 0 0: 13 end with 0; 0 1: 9 with 0; 1 0: 7 with 0; 1 1: 10 with 1
        Checks.due("1 0", 16, () -> b.input(true));
        MendBench none = Checks.withRuns("end 5;end 6", 0, 0, 5);
        none.tries(25);
        Checks.due("all alike everywhere: the nearest to the run", 0, () -> none.input(true));
        none.run(3, 4, 5);
        Checks.due("of two runs the least x", 0, () -> none.input(true));
        MendBench only = Checks.withRuns("end 5;end 6", 3, 4, 5);
        only.tries(25);
        Checks.due("the run itself", 16 * 3 + 4, () -> only.input(true));
        only.box(2);
        Checks.due("the nearest in the box", 16 * 2 + 2, () -> only.input(true));
    }

    private static void askedOfSeveral() {
        Checks.of("ASKED: of several that nearest to a RUN's, then the least x, then the least y");
        MendBench b = Checks.withRuns("end x + y", 3, 3, 6);
        b.tries(15);
        Checks.due("2 3: one alike of two", 16 * 2 + 3, () -> b.input(true));
        b.box(2);
        Checks.due("1 2 ahead of 2 1", 16 * 1 + 2, () -> b.input(true));
        b.run(0, 0, 0);
        Checks.due("0 1 is one step from 0 0", 1, () -> b.input(true));
        b.box(0);
        Checks.due("0 0 alone, both alike", 0, () -> b.input(true));
        MendBench far = Checks.withRuns("end x + y", 15, 15, 30);
        far.tries(15);
        Checks.due("7 steps: 6 7", 16 * 6 + 7, () -> far.input(true));
        far.box(15);
        Checks.due("14 15", 16 * 14 + 15, () -> far.input(true));
    }

    private static void ofFewer() {
        Checks.of("input: none with fewer than two ALIVE ones; NONE");
        MendBench none = new MendBench();
        MendBench b = Checks.withBody("end x");
        for (boolean kind : new boolean[] {false, true}) {
            Checks.due("no body " + kind, -1, () -> none.input(kind));
            Checks.due("none alive " + kind, -1, () -> b.input(kind));
        }
        b.tries(1);
        Checks.due("one alive, near", -1, () -> b.input(false));
        Checks.due("one alive, asked", -1, () -> b.input(true));
        b.tries(1);
        Checks.due("two alive, near", -1, () -> b.input(false));
        Checks.due("two alive, asked", 0, () -> b.input(true));
        Checks.putLaw(b, "0 = 1");
        b.bar();
        Checks.due("two barred, asked", -1, () -> b.input(true));
        b.tries(1);
        Checks.due("one kept of three, asked", -1, () -> b.input(true));
        MendBench put = Checks.withBody("end x");
        put.tries(6);
        put.run(0, 3, 3);
        Checks.due("one stays", 1, () -> put.count(6));
        Checks.due("near of one that stays", -1, () -> put.input(false));
        Checks.due("asked of one that stays", -1, () -> put.input(true));
    }

    private static void ofThirty() {
        Checks.of("NEAR, ASKED: of kept ALIVE ones alone, up to 30");
        MendBench b = Checks.withBody("set b=1;set c=2;end x");
        b.tries(30);
        Checks.due("thirty", 30, () -> b.count(6));
        b.box(1);
        int near = -1;
        int asked = -1;
        int fewest = 99;
        for (int at = 0; at < 4; at++) {
            int most = mostAlike(b, at / 2, at % 2);
            near = near < 0 && most < 30 ? 16 * (at / 2) + at % 2 : near;
            asked = most < fewest ? 16 * (at / 2) + at % 2 : asked;
            fewest = Math.min(fewest, most);
        }
        int nearOne = near;
        int askedOne = asked;
        Checks.due("near", nearOne, () -> b.input(false));
        Checks.due("asked", askedOne, () -> b.input(true));
        MendBench alike = Checks.withRuns("set b=1;set c=2;end 7", 0, 0, 7);
        alike.tries(200);
        Checks.due("thirty that end alike", 30, () -> alike.count(6));
        Checks.due("near", -1, () -> alike.input(false));
        Checks.due("asked: the run itself", 0, () -> alike.input(true));
    }

    private static void ofThoseLeft() {
        Checks.of("NEAR, ASKED: of kept ALIVE ones, and not of those that were put out");
        MendBench b = Checks.withRuns("end a;end y", 0, 0, 0);
        // b, c, d, x, y
        b.tries(5);
        Checks.due("y apart", 1, () -> b.input(false));
        Checks.due("x and y apart from the other three", 17, () -> b.input(true));
        b.run(0, 1, 0);
        Checks.due("four are left", 4, () -> b.count(6));
        Checks.due("x apart", 16, () -> b.input(false));
        Checks.due("x apart from three", 16, () -> b.input(true));
        b.run(1, 0, 0);
        Checks.due("three are left", 3, () -> b.count(6));
        Checks.due("none apart", -1, () -> b.input(false));
        Checks.due("three alike, at a RUN's", 0, () -> b.input(true));
        MendBench barred = Checks.withRuns("end a;end y", 0, 0, 0);
        barred.tries(5);
        Checks.due("y apart ahead of the law", 1, () -> barred.input(false));
        Checks.putLaw(barred, "r = x or r = 0");
        Checks.due("y is barred", 1, barred::bar);
        Checks.due("x apart now", 16, () -> barred.input(false));
        Checks.due("x apart from three now", 16, () -> barred.input(true));
    }

    private static int mostAlike(MendBench b, int x, int y) {
        int[] ends = new int[30];
        for (int i = 0; i < 30; i++) {
            ends[i] = b.aliveEnds(i, x, y);
        }
        int most = 0;
        for (int i = 0; i < 30; i++) {
            int alike = 0;
            for (int end : ends) {
                alike += end == ends[i] ? 1 : 0;
            }
            most = Math.max(most, alike);
        }
        return most;
    }

    /** Of END 5: on how many inputs of the BOX 0 to 1 a LAW is broken, and the first of these. */
    private static void law(String text, int broken, int first) {
        MendBench b = Checks.withBody("end 6");
        b.tries(1);
        b.box(1);
        Checks.putLaw(b, text);
        Checks.due("proved by " + text, broken, () -> b.prove(0, false));
        Checks.due("broken by " + text, first, () -> b.prove(0, true));
        Checks.due("barred by " + text, broken > 0 ? 1 : 0, b::bar);
    }

    private static void lawHolds() {
        Checks.of("LAW: LAWATOM SIGN LAWATOM: at less, the same and more");
        law("r < 4", 4, 0);
        law("r < 5", 4, 0);
        law("r < 6", 0, -1);
        law("r > 4", 0, -1);
        law("r > 5", 4, 0);
        law("r > 6", 4, 0);
        law("r = 4", 4, 0);
        law("r = 5", 0, -1);
        law("r = 6", 4, 0);
        law("4 < r", 0, -1);
        law("5 < r", 4, 0);
        law("5 > r", 4, 0);
        law("6 > r", 0, -1);
        law("x < y", 3, 0);
        law("x > y", 3, 0);
        law("x = y", 2, 1);
        law("y < x", 3, 0);
        law("x = 0", 2, 16);
        law("y = 0", 2, 1);
        law("r = x", 4, 0);
        law("r > y", 0, -1);
        law("9999 = 9999", 0, -1);
        law("0009 > 8", 0, -1);
        law("1000 > 999", 0, -1);
        law("r < 10", 0, -1);
        law("10 < 9", 4, 0);
        law("r < r", 4, 0);
        law("r = 5 or r < r", 0, -1);
        law("r < r or r = 5", 0, -1);
        law("x = 0 and not r < r", 2, 16);
    }

    private static void lawBindings() {
        Checks.of("COND: ALL { or ALL }; ALL: ITEM { and ITEM }; ITEM: not ITEM | ( COND ) | LAWATOM SIGN LAWATOM");
        law("x = 0 or x = 1", 0, -1);
        law("x = 0 and x = 1", 4, 0);
        law("x = 0 or y = 1 and r = 4", 2, 16);
        law("(x = 0 or y = 1) and r = 4", 4, 0);
        law("r = 4 and x = 0 or y = 1", 2, 0);
        law("r = 4 and (x = 0 or y = 1)", 4, 0);
        law("not x = 0", 2, 0);
        law("not not x = 0", 2, 16);
        law("not not not x = 0", 2, 0);
        law("not x = 0 and x = 1", 2, 0);
        law("not (x = 0 and x = 1)", 0, -1);
        law("not x = 0 or x = 0", 0, -1);
        law("not (x = 0 or x = 1)", 4, 0);
        law("x = 1 and not y = 1", 3, 0);
        law("x = 1 or not y = 1", 1, 1);
        law("x = 1 and y = 1 or x = 0 and y = 0", 2, 1);
        law("(x = 1 or y = 1) and (x = 0 or y = 0)", 2, 0);
        law("x = 1 and y = 1 and r = 5", 3, 0);
        law("x = 0 or y = 0 or r = 4", 1, 17);
        law("((((((x = 1 or y = 1) and r = 5) or r = 4) and r > x) or r = 3) and r > y)", 1, 0);
        law("r=5 and(r=5 and(r=5 and(r=5 and(r=5 and(r=5 and(x=0 or r=4 and y=0))))))", 2, 16);
        law("r=4 or(r=4 or(r=4 or(r=4 or(r=4 or(r=4 or(x=0 and r=5 or y=0))))))", 1, 17);
        law("r=4 or r=5 and(r=4 or r=5 and(r=4 or r=5 and(r=4 or r=5 and(r=4 or r=5 and(r=4 or r=5 and(r=4 or r=5 and x=1))))))", 2, 0);
    }

    private static void provedAndBroken() {
        Checks.of("PROVED: how many inputs of the BOX break the LAW (an END without a number breaks it); BROKEN: the first, 16 x and y; none");
        MendBench b = Checks.withBody("end x * y");
        b.tries(15);
        Checks.putLaw(b, "r = r");
        b.box(3);
        // 12 is x / y, 13 is x % y: divided where y is 0
        Checks.due("divided", 4, () -> b.prove(12, false));
        Checks.due("divided first at 0 0", 0, () -> b.prove(12, true));
        Checks.due("a rest", 4, () -> b.prove(13, false));
        Checks.putLaw(b, "not r < 9999");
        Checks.due("no law holds of an end without a number", 16, () -> b.prove(12, false));
        Checks.putLaw(b, "r > 9999");
        Checks.due("not even above", 16, () -> b.prove(12, false));
        Checks.putLaw(b, "not x = 2 or not y = 3");
        Checks.due("one input", 1, () -> b.prove(0, false));
        Checks.due("it is told as 16 x and y", 16 * 2 + 3, () -> b.prove(0, true));
        Checks.putLaw(b, "x < 2 or y < 2");
        Checks.due("four inputs", 4, () -> b.prove(0, false));
        Checks.due("the least x, then the least y", 16 * 2 + 2, () -> b.prove(0, true));
        Checks.putLaw(b, "x < 3 and y < 3");
        Checks.due("the edges of the box", 7, () -> b.prove(0, false));
        Checks.due("0 3 is ahead of 3 0", 3, () -> b.prove(0, true));
        b.box(2);
        Checks.due("none in a smaller box", 0, () -> b.prove(0, false));
        Checks.due("no first in a smaller box", -1, () -> b.prove(0, true));
        b.box(15);
        Checks.due("all of the largest", 256 - 9, () -> b.prove(0, false));
        Checks.putLaw(b, "x < 15 or y < 15");
        Checks.due("the last input", 1, () -> b.prove(0, false));
        Checks.due("it is 255", 255, () -> b.prove(0, true));
        MendBench over = Checks.withBody("back 1 if x = y;end 1");
        over.tries(1);
        Checks.putLaw(over, "r = r");
        over.box(1);
        // a = y: over where y is 0
        Checks.due("over breaks it", 2, () -> over.prove(0, false));
        MendBench beyond = Checks.withBody("set b=99;set c=b*b;end c*x");
        beyond.tries(1);
        Checks.putLaw(beyond, "r = r");
        Checks.due("by V a of line 0 b is 0", 0, () -> beyond.prove(0, false));
        MendBench below = Checks.withBody("end 0 - 6");
        below.tries(400);
        Checks.putLaw(below, "r < 0");
        // signs + * / %, bounds 1 - 6, 0 - 5, 0 - 7, out
        Checks.due("an end below 0", 0, () -> below.prove(6, false));
        Checks.due("an end of 0", 64, () -> below.prove(1, false));
    }

    private static void proveRefused() {
        Checks.of("prove: IndexOutOfBoundsException, then IllegalStateException: there is no LAW");
        MendBench b = Checks.withBody("end 5");
        Checks.due("none kept, no law", "IndexOutOfBoundsException", () -> b.prove(0, false));
        b.tries(2);
        Checks.due("no law", "IllegalStateException", () -> b.prove(1, false));
        Checks.due("no law, first", "IllegalStateException", () -> b.prove(1, true));
        for (int i : new int[] {-1, 2, 30, Integer.MIN_VALUE, Integer.MAX_VALUE}) {
            Checks.due("prove " + i + ", no law", "IndexOutOfBoundsException", () -> b.prove(i, true));
        }
        Checks.feedText(b, "r = ");
        Checks.due("a wrong law", "IllegalArgumentException", b::law);
        Checks.due("is none", "IllegalStateException", () -> b.prove(1, false));
        Checks.putLaw(b, "r = 4");
        for (int i : new int[] {-1, 2, 30, Integer.MIN_VALUE, Integer.MAX_VALUE}) {
            Checks.due("prove " + i, "IndexOutOfBoundsException", () -> b.prove(i, false));
        }
        Checks.due("the first", 0, () -> b.prove(0, false));
        Checks.due("the last", 64, () -> b.prove(1, false));
    }

    private static void barred() {
        Checks.of("BARRED: all kept ALIVE ones that break it on the BOX are put out");
        MendBench b = Checks.withBody("end x + y");
        b.tries(15);
        b.box(1);
        Checks.putLaw(b, "r = x or r > x");
        // broken at 1 0 by a b c d + y, y + y, x / y and x % y divided, x * y, out; at 1 1 by x - y
        Checks.due("barred", 10, b::bar);
        Checks.due("barred in all", 10, () -> b.count(9));
        Checks.due("x and x + x stay", 5, () -> b.count(6));
        Checks.due("the first that stays", 5, () -> b.alive(0, 0));
        Checks.due("the last that stays", 9, () -> b.alive(4, 0));
        Checks.due("alive in all", 15, () -> b.count(7));
        Checks.due("none is pleased", 0, () -> b.count(8));
        Checks.due("tried", 15, () -> b.count(5));
        Checks.due("once more none", 0, b::bar);
        Checks.putLaw(b, "r = x");
        Checks.due("x + x breaks it at 1 0", 1, b::bar);
        Checks.due("barred in all: eleven", 11, () -> b.count(9));
        Checks.putLaw(b, "x < 1");
        Checks.due("all others", 4, b::bar);
        Checks.due("none is kept", 0, () -> b.count(6));
        Checks.due("none to bar", 0, b::bar);
        MendBench box = Checks.withBody("end 5");
        box.tries(3);
        box.box(0);
        Checks.putLaw(box, "x = 0");
        Checks.due("not broken on a small box", 0, box::bar);
        box.box(1);
        Checks.due("broken at 1 0", 3, box::bar);
        Checks.of("BARRED ones may be told apart from RUNS: what is tried later is kept");
        MendBench later = Checks.withBody("end 5");
        later.tries(2);
        Checks.putLaw(later, "r = 0");
        Checks.due("two", 2, later::bar);
        later.tries(1);
        Checks.due("out is kept", 1, () -> later.count(6));
        Checks.due("and is not barred", 0, later::bar);
    }

    private static void barRefused() {
        Checks.of("bar: IllegalStateException: there is no LAW");
        MendBench b = Checks.withBody("end 5");
        b.tries(3);
        Checks.due("no law", "IllegalStateException", b::bar);
        Checks.due("none put out", 3, () -> b.count(6));
        Checks.due("none barred", 0, () -> b.count(9));
        MendBench none = new MendBench();
        Checks.putLaw(none, "r = 1");
        Checks.due("a law, no body", 0, none::bar);
    }

    private static void otherwise() {
        Checks.of("OTHERWISE: on how many inputs of the BOX a kept ALIVE one (or the BODY) ends otherwise than it");
        MendBench b = Checks.withBody("end x / y");
        Checks.putSecond(b, "end x % y");
        b.box(2);
        // 0 1: 0 0; 0 2: 0 0; 1 1: 1 0; 1 2: 0 1; 2 1: 2 0; 2 2: 1 0; divided is as divided
        Checks.due("of the body", 4, () -> b.otherwise(-1));
        b.tries(15);
        // 10 x + y, 11 x - y, 12 x * y, 13 x % y
        Checks.due("the same", 0, () -> b.otherwise(13));
        Checks.due("a sum is otherwise on all nine", 9, () -> b.otherwise(10));
        b.box(0);
        Checks.due("0 0: both divided", 0, () -> b.otherwise(-1));
        Checks.due("0 0: 0 is otherwise than divided", 1, () -> b.otherwise(12));
        b.box(15);
        Checks.putSecond(b, "end 0 - 1");
        Checks.due("on all", 256, () -> b.otherwise(-1));
        MendBench ends = Checks.withBody("set b = x / y;end 1");
        Checks.putSecond(ends, "back 1 if y = 0;end 1");
        ends.box(3);
        Checks.due("divided is otherwise than over", 4, () -> ends.otherwise(-1));
        Checks.putSecond(ends, "set b = 1 / y;end 1");
        Checks.due("divided is divided", 0, () -> ends.otherwise(-1));
        Checks.of("OTHERWISE: of longer and shorter ones");
        MendBench one = Checks.withBody("end 5");
        Checks.putSecond(one, "set b = 1;set c = 2;set d = 3;set a = 5;set b = 1;set b = 1;set b = 1;set b = 1;set b = 1;set b = 1");
        Checks.due("the same ends", 0, () -> one.otherwise(-1));
        Checks.putSecond(one, "skip 1 if x = 7;skip 1 if y < 9;end 4;end 5");
        Checks.due("the last column of the box", 8, () -> one.otherwise(-1));
    }

    private static void otherwiseRefused() {
        Checks.of("otherwise: IndexOutOfBoundsException, then IllegalStateException: there is no BODY, or no SECOND; NONE: of the BODY");
        MendBench none = new MendBench();
        Checks.due("no body, no second", "IllegalStateException", () -> none.otherwise(-1));
        Checks.due("none kept, no body", "IndexOutOfBoundsException", () -> none.otherwise(0));
        Checks.putSecond(none, "end 1");
        Checks.due("no body", "IllegalStateException", () -> none.otherwise(-1));
        MendBench b = Checks.withBody("end 5");
        Checks.due("no second", "IllegalStateException", () -> b.otherwise(-1));
        b.tries(2);
        Checks.due("no second of a kept one", "IllegalStateException", () -> b.otherwise(1));
        for (int i : new int[] {-2, 2, 30, Integer.MIN_VALUE, Integer.MAX_VALUE}) {
            Checks.due("otherwise " + i + ", no second", "IndexOutOfBoundsException", () -> b.otherwise(i));
        }
        Checks.putSecond(b, "end 6");
        for (int i : new int[] {-2, 2, 30, Integer.MIN_VALUE, Integer.MAX_VALUE}) {
            Checks.due("otherwise " + i, "IndexOutOfBoundsException", () -> b.otherwise(i));
        }
        Checks.due("of the body", 64, () -> b.otherwise(-1));
        Checks.due("of the last", 0, () -> b.otherwise(1));
    }

    private static void heaps() {
        Checks.of("HEAPS: the fewest single MENDS, so that each WRONG RUN is RIGHT by one of them; none, if some WRONG one has none (0 without)");
        MendBench none = new MendBench();
        Checks.due("no body", "IllegalStateException", none::heaps);
        none.run(0, 0, 0);
        Checks.due("a run, no body", "IllegalStateException", none::heaps);
        MendBench b = Checks.withBody("end 5");
        Checks.due("without runs", 0, b::heaps);
        b.run(0, 0, 5);
        Checks.due("without a wrong one", 0, b::heaps);
        MendBench wrong = Checks.withRuns("end 5", 0, 0, 4);
        Checks.due("one", 1, wrong::heaps);
        wrong.run(1, 0, 4);
        Checks.due("two by the same", 1, wrong::heaps);
        wrong.run(1, 0, 6);
        Checks.due("by two", 2, wrong::heaps);
        wrong.run(3, 3, 0);
        Checks.due("by three", 3, wrong::heaps);
        wrong.run(3, 3, 7);
        Checks.due("7 has none", -1, wrong::heaps);
        MendBench only = Checks.withRuns("end 5", 0, 0, 7);
        Checks.due("none alone", -1, only::heaps);
        MendBench doubles = Checks.withRuns("end 5;end 6", 0, 0, 7);
        Checks.due("doubles do not count", -1, doubles::heaps);
        MendBench first = Checks.withRuns("end 5", 0, 0, 4, 0, 0, 4);
        Checks.due("the first mend alone", 1, first::heaps);
        MendBench last = Checks.withRuns("end 5", 0, 0, 0);
        Checks.due("the last mend alone", 1, last::heaps);
        MendBench three = Checks.withRuns("end x + y", 1, 9, 9, 2, 9, 9, 3, 3, 0, 4, 4, 0, 9, 1, 9, 9, 2, 9);
        Checks.due("y, x and minus", 3, three::heaps);
        // x * y is right in the first four, but x + x and y + y part all six
        MendBench greatest = Checks.withRuns("end x + y", 3, 2, 6, 5, 2, 10, 2, 3, 6, 2, 5, 10, 4, 3, 8, 3, 4, 8);
        Checks.due("the greatest heap is not among the fewest", 2, greatest::heaps);
        Checks.due("it is right in four", 4, () -> greatest.mend(11, 2));
        MendBench none2 = Checks.withRuns("end x + y", 0, 0, 1);
        Checks.due("no end of 1 at 0 0", -1, none2::heaps);
    }

    private static void heapsKeepRight() {
        Checks.of("HEAPS: and all that are RIGHT stay RIGHT by each of them");
        MendBench b = Checks.withRuns("end x", 5, 3, 3);
        Checks.due("y", 1, b::heaps);
        b.run(4, 4, 4);
        Checks.due("y keeps 4 4", 1, b::heaps);
        b.run(4, 2, 4);
        Checks.due("y breaks 4 2", -1, b::heaps);
        MendBench told = Checks.withRuns("end x", 3, 3, 4, 4, 4, 4);
        Checks.putBody(told, "end x + 0");
        Checks.due("x + 1 breaks 4 4", -1, told::heaps);
        MendBench untold = Checks.withRuns("end x + 0", 3, 3, 4);
        Checks.due("0 0 is not told: x + 1 need not keep it", 1, untold::heaps);
        MendBench two = Checks.withRuns("skip 1 if x < 5;end 1;end 2", 9, 0, 2, 5, 0, 2, 0, 0, 2);
        Checks.due("by one that keeps the third", 1, two::heaps);
        // y + 1 for the second RUN; only x + 2 makes the third one right, and that breaks the first one
        MendBench behind = Checks.withRuns("end x + 1", 1, 1, 2, 5, 3, 4, 4, 0, 6);
        Checks.due("y + 1 keeps it", 10, () -> 10 * behind.mend(4, 2) + behind.mend(4, 3));
        Checks.due("x + 2 does not", 11, () -> 10 * behind.mend(10, 2) + behind.mend(10, 3));
        Checks.due("one that breaks it, behind one that does not", -1, behind::heaps);
        MendBench each = Checks.withRuns("skip 1 if x < 5;end 1;end 2", 9, 0, 0, 0, 0, 2, 8, 0, 2);
        Checks.due("end 0 for the first, another for the third", 2, each::heaps);
        each.run(7, 0, 1);
        Checks.due("one that is right now stands in the way", -1, each::heaps);
    }

    private static void heapsOfTwelve() {
        Checks.of("HEAPS: of twelve WRONG RUNS");
        MendBench b = Checks.withBody("end 5");
        for (int i = 0; i < 12; i++) {
            b.run(i, 0, i % 3 == 0 ? 4 : i % 3 == 1 ? 6 : 0);
        }
        Checks.due("three heaps of four", 3, b::heaps);
        MendBench last = Checks.withBody("end 5");
        for (int i = 0; i < 12; i++) {
            last.run(i, 0, i < 11 ? 4 : 0);
        }
        Checks.due("the twelfth apart", 2, last::heaps);
        MendBench gone = Checks.withBody("end 5");
        for (int i = 0; i < 12; i++) {
            gone.run(i, 0, i < 11 ? 4 : 7);
        }
        Checks.due("the twelfth has none", -1, gone::heaps);
        // each LINE's own way alone: at x k it ends with k ten more; each must end one above or below
        MendBench many = Checks.withBody("skip 4 if x > 2;skip 1 if x > 0;end 10;skip 1 if x > 1;end 20;skip 1 if x > 3;end 30;end 40");
        int[] x = {0, 0, 1, 1, 3, 3, 4, 4};
        int[] must = {9, 11, 19, 21, 29, 31, 39, 41};
        for (int i = 0; i < 8; i++) {
            int wants = i + 1;
            many.run(x[i], 0, must[i]);
            Checks.due("heaps of " + wants, wants, many::heaps);
        }
        many.run(0, 5, 9);
        Checks.due("one that is in a heap", 8, many::heaps);
    }

    private static void putInHarmless() {
        Checks.of("PUT IN: HARMLESS, whatever else: the fault itself makes none of these RUNS end otherwise");
        MendBench b = Checks.withBody("end x + 1");
        // names a b c d y, signs - * / %, bounds 0 2, OUT
        for (int i = 0; i < 12; i++) {
            int k = i;
            Checks.due("without runs " + i, 3, () -> b.putIn(k));
        }
        b.run(0, 0, 999);
        Checks.due("a + 1 at 0 0 is as x + 1", 3, () -> b.putIn(0));
        Checks.due("y + 1 too", 3, () -> b.putIn(4));
        Checks.due("x - 1 is not", true, () -> b.putIn(5) != 3);
        Checks.due("out is not", true, () -> b.putIn(11) != 3);
        b.run(0, 3, 999);
        Checks.due("a + 1 still", 3, () -> b.putIn(0));
        Checks.due("y + 1 no more", true, () -> b.putIn(4) != 3);
        b.run(3, 3, 4);
        Checks.due("a + 1 no more", true, () -> b.putIn(0) != 3);
        Checks.of("PUT IN: where that is a number; others are not asked");
        MendBench divided = Checks.withRuns("end x / y", 1, 0, 0, 7, 0, 7);
        for (int i = 0; i < 15; i++) {
            int k = i;
            Checks.due("divided runs alone " + i, 3, () -> divided.putIn(k));
        }
        divided.run(8, 2, 0);
        Checks.due("x * y is otherwise at 8 2", true, () -> divided.putIn(12) != 3);
        MendBench divides = Checks.withRuns("end x * y", 3, 0, 0);
        Checks.due("a fault without a number is otherwise", true, () -> divides.putIn(12) != 3);
        MendBench over = Checks.withRuns("back 1 if x < 5;end 1", 0, 0, 1);
        Checks.due("over is not asked", 3, () -> over.putIn(0));
    }

    private static void putInJudged() {
        Checks.of("PUT IN: MISSED: none of them ends on the whole BOX as the BODY; FOUND: all of them do; else in DOUBT");
        MendBench b = Checks.withRuns("end x + 1", 2, 3, 0);
        Checks.due("y + 1: y * 1, y / 1 and y + 0 are 3 too", 2, () -> b.putIn(4));
        Checks.due("x - 1", 1, () -> b.putIn(5));
        Checks.due("x + 2", 1, () -> b.putIn(10));
        Checks.due("out has no mends", 0, () -> b.putIn(11));
        Checks.of("PUT IN: MISSED: no MEND of the faulty BODY does all, or each that does is another on the BOX");
        MendBench out = Checks.withRuns("end 5", 0, 0, 0);
        Checks.due("out has no mends", 0, () -> out.putIn(2));
        Checks.due("4 has 5", 1, () -> out.putIn(0));
        Checks.due("6 has 5", 1, () -> out.putIn(1));
        MendBench two = Checks.withRuns("end 5;end 6", 0, 0, 0);
        // mends of line 0: 4, 6, OUT, MOVE, GRAFT; of nothing;end 6: move, graft, 5, 7, out, graft
        Checks.due("out of line 0: 5 on line 1 is alike on the box", 1, () -> two.putIn(2));
        Checks.due("move: 5 by move, bound, out and graft of line 0", 1, () -> two.putIn(3));
        MendBench doubt = Checks.withRuns("end x + 1", 3, 2, 0);
        Checks.due("x + 2: y + 2 is another, behind it x + 1 is as the body", 2, () -> doubt.putIn(10));
        MendBench first = Checks.withRuns("end x + y", 0, 1, 5);
        Checks.due("a + y is harmless at 0 1", 3, () -> first.putIn(0));
        Checks.of("PUT IN: of the single MENDS of that faulty BODY, also where these are more or fewer than the BODY's");
        // out of line 0; a = 5 - x, then a = 5 - a would be x again, but that is a DOUBLE one
        MendBench fewer = Checks.withRuns("end x;set a=5-x", 1, 3, 0);
        Checks.due("the fault ends with 4", 4, () -> endWith("set a=5-x", 1, 3));
        Checks.due("missed", 0, () -> fewer.putIn(5));
        // x + y on line 1 too: x + b, x + c and x + d are x, but behind them x * y and x / y are it at 3 1 alone
        MendBench more = Checks.withRuns("set a=x+y;end x", 3, 1, 0);
        Checks.due("27 mends", 27, () -> more.count(3));
        Checks.due("graft on line 1", 51, () -> 10 * more.mend(26, 0) + more.mend(26, 1));
        Checks.due("in doubt by the 33rd of 36", 2, () -> more.putIn(26));
        more.run(3, 2, 0);
        Checks.due("3 2 parts them", 1, () -> more.putIn(26));
        MendBench last = Checks.withRuns("end x + x", 1, 1, 9);
        Checks.due("x - x: of its mends x + x alone ends with 2", 1, () -> last.putIn(10));
    }

    private static void putInWholeBox() {
        Checks.of("PUT IN: ends on the whole BOX as the BODY, its last x and y too");
        // the fault is 6 for 7; of its MENDS that do all RUNS but 7 itself each ends with 2 everywhere
        MendBench x = Checks.withRuns("skip 1 if x < 7;end 1;end 2", 6, 0, 9, 0, 0, 9, 6, 6, 9);
        Checks.due("the fault", 16, () -> x.line(7, 0, 4));
        Checks.due("up to 6 the body ends with 2 everywhere", 1, () -> boxed(x, 6, 7));
        Checks.due("7 parts them", 2, () -> boxed(x, 7, 7));
        Checks.due("so does 15", 2, () -> boxed(x, 15, 7));
        Checks.due("0 0 alone", 1, () -> boxed(x, 0, 7));
        MendBench y = Checks.withRuns("skip 1 if y < 7;end 1;end 2", 0, 6, 9, 0, 0, 9, 6, 6, 9);
        Checks.due("up to 6 of y", 1, () -> boxed(y, 6, 7));
        Checks.due("7 of y parts them", 2, () -> boxed(y, 7, 7));
        Checks.of("PUT IN: ends on the whole BOX as the BODY, its first x and y too");
        MendBench firstX = Checks.withRuns("skip 1 if x > 0;end 1;end 2", 1, 0, 9, 2, 0, 9);
        Checks.due("the fault is 1 for 0", 11, () -> firstX.line(7, 0, 4));
        Checks.due("x 0 parts them", 2, () -> firstX.putIn(7));
        MendBench firstY = Checks.withRuns("skip 1 if y > 0;end 1;end 2", 0, 1, 9, 0, 2, 9);
        Checks.due("y 0 parts them", 2, () -> firstY.putIn(7));
        Checks.of("PUT IN: on the BOX an END without a number is one too");
        MendBench divided = Checks.withRuns("end y / x", 1, 1, 0, 2, 6, 0, 3, 6, 0);
        Checks.due("0 / 0 is not 0", 1, () -> divided.putIn(12));
    }

    private static int endWith(String text, int x, int y) {
        return Checks.withBody(text).ends(x, y, false);
    }

    private static int boxed(MendBench b, int n, int fault) {
        b.box(n);
        return b.putIn(fault);
    }

    private static void putInRefused() {
        Checks.of("putIn: IndexOutOfBoundsException; the BODY stays as it is");
        MendBench none = new MendBench();
        Checks.due("no body", "IndexOutOfBoundsException", () -> none.putIn(0));
        MendBench b = Checks.withRuns("end x + 1", 2, 3, 0);
        for (int mend : new int[] {-1, 12, 300, Integer.MIN_VALUE, Integer.MAX_VALUE}) {
            Checks.due("mend " + mend, "IndexOutOfBoundsException", () -> b.putIn(mend));
        }
        b.tries(3);
        for (int i = 0; i < 12; i++) {
            b.putIn(i);
            Checks.due("the body stays", 3, () -> b.ends(2, 3, false));
            Checks.due("its mends stay", 12, () -> b.count(3));
            Checks.due("what was tried stays", 3, () -> b.count(5));
            Checks.due("no more to be taken back", 0, () -> b.count(10));
            Checks.due("the run stays wrong", 0, () -> b.look(0, 4));
        }
        MendBench two = Checks.withBody("end 5;end 6");
        Checks.due("a double is none", "IndexOutOfBoundsException", () -> two.putIn(9));
        Checks.due("the last single", 3, () -> two.putIn(8));
    }

    private static void made() {
        Checks.of("make: A kept ALIVE one is MADE: how many can be TAKEN BACK then; the latest 6");
        MendBench b = Checks.withBody("end 50");
        for (int i = 1; i <= 8; i++) {
            b.tries(2);
            int can = Math.min(6, i);
            int ends = 50 + i;
            Checks.due("made " + i, can, () -> b.make(1));
            Checks.due("counted " + i, can, () -> b.count(10));
            Checks.due("ends " + i, ends, () -> b.ends(0, 0, false));
        }
        for (int i = 7; i >= 2; i--) {
            int ends = 50 + i;
            int left = i - 2;
            Checks.due("taken back " + i, true, b::takeBack);
            Checks.due("ends then " + i, ends, () -> b.ends(0, 0, false));
            Checks.due("left " + i, left, () -> b.count(10));
        }
        Checks.due("six alone", false, b::takeBack);
        Checks.due("it stays", 52, () -> b.ends(0, 0, false));
        Checks.of("make: of a DOUBLE one, and of OUT");
        MendBench two = Checks.withRuns("end 5;end 6", 0, 0, 7);
        two.tries(25);
        Checks.due("both are made", 1, () -> two.make(0));
        Checks.due("nothing and 7", 7, () -> two.ends(0, 0, false));
        Checks.due("nothing", 4, () -> two.line(-1, 0, 0));
        Checks.due("taken back", true, two::takeBack);
        Checks.due("as it was", 5, () -> two.ends(0, 0, false));
        Checks.due("its mends", 9, () -> two.count(3));
    }

    private static void takenBack() {
        Checks.of("takeBack: The latest that was MADE is TAKEN BACK: true; false, and nothing happens, without one");
        MendBench none = new MendBench();
        Checks.due("no body", false, none::takeBack);
        MendBench b = Checks.withBody("end 5;end x");
        b.tries(4);
        Checks.due("none made", false, b::takeBack);
        Checks.due("nothing happened", 4, () -> b.count(5));
        b.make(2);
        Checks.due("out is made", 4, () -> b.line(-1, 0, 0));
        Checks.due("taken back", true, b::takeBack);
        Checks.due("end 5", 3, () -> b.line(-1, 0, 0));
        Checks.due("5", 15, () -> b.line(-1, 0, 2));
        Checks.due("nothing is tried then", 0, () -> b.count(5));
        b.tries(2);
        Checks.due("no more", false, b::takeBack);
        Checks.due("what was tried stays", 2, () -> b.count(5));
        Checks.of("body: With another BODY nothing can be TAKEN BACK");
        b.make(0);
        b.tries(2);
        b.make(0);
        Checks.due("two", 2, () -> b.count(10));
        Checks.feedText(b, "end z");
        Checks.due("a wrong body", "IllegalArgumentException", () -> b.body(false));
        Checks.due("two still", 2, () -> b.count(10));
        Checks.putSecond(b, "end 9");
        Checks.due("a second is none", 2, () -> b.count(10));
        Checks.putBody(b, "end 9");
        Checks.due("none", 0, () -> b.count(10));
        Checks.due("nothing to take back", false, b::takeBack);
        Checks.due("the body stays", 9, () -> b.ends(0, 0, false));
    }

    private static void makeRefused() {
        Checks.of("make: IndexOutOfBoundsException (kept)");
        MendBench none = new MendBench();
        Checks.due("no body", "IndexOutOfBoundsException", () -> none.make(0));
        MendBench b = Checks.withBody("end 5");
        Checks.due("none kept", "IndexOutOfBoundsException", () -> b.make(0));
        b.tries(2);
        for (int i : new int[] {-1, 2, 30, Integer.MIN_VALUE, Integer.MAX_VALUE}) {
            Checks.due("make " + i, "IndexOutOfBoundsException", () -> b.make(i));
        }
        Checks.due("nothing is made", 0, () -> b.count(10));
        Checks.due("what was tried stays", 2, () -> b.count(5));
        Checks.due("the body stays", 5, () -> b.ends(0, 0, false));
        Checks.due("the last", 1, () -> b.make(1));
        Checks.due("6", 6, () -> b.ends(0, 0, false));
        Checks.due("nothing is kept then", "IndexOutOfBoundsException", () -> b.make(0));
    }
}
