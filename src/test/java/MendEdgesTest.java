import java.util.ArrayList;
import java.util.List;

/** The edges of what the document says of MENDS, TRIES and ORDER, a sentence each: promises 12 to 18, MENDS in Terms. */
public final class MendEdgesTest {
    public static void main(String[] args) {
        names();
        signs();
        bounds();
        countBounds();
        out();
        move();
        graft();
        alike();
        doubles();
        doublesOnNothing();
        doublesOnUnlikeLines();
        mendTold();
        mendRefused();
        lineTold();
        lineRefused();
        Checks.finish();
    }

    private static String atom(int code) {
        return code == -1 ? "" : code < 6 ? "abcdxy".substring(code, code + 1) : String.valueOf(code - 10);
    }

    private static String lineText(MendBench b, int mend, int line) {
        int kind = b.line(mend, line, 0);
        int sign = b.line(mend, line, 3);
        String sum = atom(b.line(mend, line, 2)) + (sign == 0 ? "" : "+-*/%<>=".substring(sign - 1, sign)) + atom(b.line(mend, line, 4));
        int v = b.line(mend, line, 1);
        int count = b.line(mend, line, 5);
        switch (kind) {
            case 0: return "set " + atom(v) + "=" + sum;
            case 1: return "skip " + count + " if " + sum;
            case 2: return "back " + count + " if " + sum;
            case 3: return "end " + sum;
            default: return "nothing" + (v == -1 && sum.isEmpty() && count == 0 ? "" : " but " + v + sum + count);
        }
    }

    /** What the BODY is as by a MEND (or as it is: NONE). */
    private static String whole(MendBench b, int mend) {
        StringBuilder text = new StringBuilder();
        for (int i = 0; i < b.count(0); i++) {
            text.append(i == 0 ? "" : ";").append(lineText(b, mend, i));
        }
        return text.toString();
    }

    /** All single MENDS of a BODY in their order: form, LINE, and that LINE as it makes it. */
    private static void mends(String text, String... want) {
        MendBench b = Checks.withBody(text);
        Checks.due("mends of " + text, want.length, () -> b.count(3));
        for (int i = 0; i < want.length; i++) {
            int mend = i;
            Checks.due("mend " + i + " of " + text, want[i], () -> b.mend(mend, 0) + " " + b.mend(mend, 1) + " " + lineText(b, mend, b.mend(mend, 1)));
        }
        Checks.due("no more", "IndexOutOfBoundsException", () -> b.mend(want.length, 0));
    }

    private static void names() {
        Checks.of("(0) NAME: its first ATOM, if it is no NUMBER, is each other of a, b, c, d, x, y; then its second likewise; then the V of set");
        mends("end a", "0 0 end b", "0 0 end c", "0 0 end d", "0 0 end x", "0 0 end y", "3 0 nothing");
        mends("end y", "0 0 end a", "0 0 end b", "0 0 end c", "0 0 end d", "0 0 end x", "3 0 nothing");
        mends("set d=c", "0 0 set d=a", "0 0 set d=b", "0 0 set d=d", "0 0 set d=x", "0 0 set d=y", "0 0 set a=c", "0 0 set b=c", "0 0 set c=c",
            "3 0 nothing");
        mends("set a=5", "0 0 set b=5", "0 0 set c=5", "0 0 set d=5", "2 0 set a=4", "2 0 set a=6", "3 0 nothing");
        mends("end a+a", "0 0 end b+a", "0 0 end c+a", "0 0 end d+a", "0 0 end x+a", "0 0 end y+a", "0 0 end a+b", "0 0 end a+c", "0 0 end a+d",
            "0 0 end a+x", "0 0 end a+y", "1 0 end a-a", "1 0 end a*a", "1 0 end a/a", "1 0 end a%a", "3 0 nothing");
        mends("end 3-y", "0 0 end 3-a", "0 0 end 3-b", "0 0 end 3-c", "0 0 end 3-d", "0 0 end 3-x", "1 0 end 3+y", "1 0 end 3*y", "1 0 end 3/y",
            "1 0 end 3%y", "2 0 end 2-y", "2 0 end 4-y", "3 0 nothing");
        mends("end x-3", "0 0 end a-3", "0 0 end b-3", "0 0 end c-3", "0 0 end d-3", "0 0 end y-3", "1 0 end x+3", "1 0 end x*3", "1 0 end x/3",
            "1 0 end x%3", "2 0 end x-2", "2 0 end x-4", "3 0 nothing");
    }

    private static void signs() {
        Checks.of("(1) SIGN: its OP (if it has one) is each other of + - * / %, its SIGN each other of < > =");
        mends("end 0+0", "1 0 end 0-0", "1 0 end 0*0", "1 0 end 0/0", "1 0 end 0%0", "2 0 end 1+0", "2 0 end 0+1", "3 0 nothing");
        mends("end 0-0", "1 0 end 0+0", "1 0 end 0*0", "1 0 end 0/0", "1 0 end 0%0", "2 0 end 1-0", "2 0 end 0-1", "3 0 nothing");
        mends("end 0*0", "1 0 end 0+0", "1 0 end 0-0", "1 0 end 0/0", "1 0 end 0%0", "2 0 end 1*0", "2 0 end 0*1", "3 0 nothing");
        mends("end 0/0", "1 0 end 0+0", "1 0 end 0-0", "1 0 end 0*0", "1 0 end 0%0", "2 0 end 1/0", "2 0 end 0/1", "3 0 nothing");
        mends("end 0%0", "1 0 end 0+0", "1 0 end 0-0", "1 0 end 0*0", "1 0 end 0/0", "2 0 end 1%0", "2 0 end 0%1", "3 0 nothing");
        mends("skip 1 if 0<0", "1 0 skip 1 if 0>0", "1 0 skip 1 if 0=0", "2 0 skip 1 if 1<0", "2 0 skip 1 if 0<1", "2 0 skip 2 if 0<0",
            "3 0 nothing");
        mends("skip 1 if 0>0", "1 0 skip 1 if 0<0", "1 0 skip 1 if 0=0", "2 0 skip 1 if 1>0", "2 0 skip 1 if 0>1", "2 0 skip 2 if 0>0",
            "3 0 nothing");
        mends("back 1 if 0=0", "1 0 back 1 if 0<0", "1 0 back 1 if 0>0", "2 0 back 1 if 1=0", "2 0 back 1 if 0=1", "2 0 back 2 if 0=0",
            "3 0 nothing");
        mends("end 0", "2 0 end 1", "3 0 nothing");
    }

    private static void bounds() {
        Checks.of("(2) BOUND: a first ATOM that is a NUMBER one less, one more; a second one likewise (0 to 99)");
        mends("end 0", "2 0 end 1", "3 0 nothing");
        mends("end 1", "2 0 end 0", "2 0 end 2", "3 0 nothing");
        mends("end 9", "2 0 end 8", "2 0 end 10", "3 0 nothing");
        mends("end 10", "2 0 end 9", "2 0 end 11", "3 0 nothing");
        mends("end 98", "2 0 end 97", "2 0 end 99", "3 0 nothing");
        mends("end 99", "2 0 end 98", "3 0 nothing");
        int[][] pairs = {{0, 0}, {0, 99}, {99, 0}, {99, 99}, {1, 98}, {98, 1}};
        for (int[] p : pairs) {
            List<String> want = new ArrayList<>();
            for (String op : new String[] {"-", "*", "/", "%"}) {
                want.add("1 0 end " + p[0] + op + p[1]);
            }
            for (int k = 0; k < 4; k++) {
                int first = p[0] + (k == 0 ? -1 : k == 1 ? 1 : 0);
                int second = p[1] + (k == 2 ? -1 : k == 3 ? 1 : 0);
                if (first >= 0 && first <= 99 && second >= 0 && second <= 99) {
                    want.add("2 0 end " + first + "+" + second);
                }
            }
            want.add("3 0 nothing");
            mends("end " + p[0] + "+" + p[1], want.toArray(new String[0]));
        }
        mends("skip 4 if 0>99", "1 0 skip 4 if 0<99", "1 0 skip 4 if 0=99", "2 0 skip 4 if 1>99", "2 0 skip 4 if 0>98", "2 0 skip 3 if 0>99",
            "2 0 skip 5 if 0>99", "3 0 nothing");
    }

    private static void countBounds() {
        Checks.of("(2) BOUND: COUNT one less, one more (1 to 9)");
        for (String kind : new String[] {"skip ", "back "}) {
            for (int n = 1; n <= 9; n++) {
                List<String> want = new ArrayList<>(List.of("1 0 " + kind + n + " if 0>99", "1 0 " + kind + n + " if 0=99",
                    "2 0 " + kind + n + " if 1<99", "2 0 " + kind + n + " if 0<98"));
                if (n > 1) {
                    want.add("2 0 " + kind + (n - 1) + " if 0<99");
                }
                if (n < 9) {
                    want.add("2 0 " + kind + (n + 1) + " if 0<99");
                }
                want.add("3 0 nothing");
                mends(kind + n + " if 0<99", want.toArray(new String[0]));
            }
        }
    }

    private static void out() {
        Checks.of("(3) OUT: the LINE does nothing (once; it stays there, and is come to)");
        MendBench b = Checks.withRuns("set a = 9;end a", 0, 0, 0);
        // 3 names, 2 bounds, OUT, MOVE, GRAFT; 5 names, OUT, GRAFT
        Checks.due("out of line 0", "nothing;end a", () -> whole(b, 5));
        Checks.due("out of line 1", "set a=9;nothing", () -> whole(b, 13));
        b.tries(9);
        Checks.due("the first that is right", 0, () -> b.alive(0, 0));
        int out = 3;
        Checks.due("out is right", 5, () -> b.alive(out, 0));
        b.make(out);
        Checks.due("it stays there", 2, () -> b.count(0));
        Checks.due("it does nothing", "nothing;end a", () -> whole(b, -1));
        Checks.due("it is come to", 2, () -> b.look(0, 5));
        Checks.due("it is done", 1, () -> b.done(0, false));
        Checks.due("once: no out of it again", 4, () -> b.mend(0, 0));
        Checks.due("move and graft of it, 5 names, out and graft", 9, () -> b.count(3));
        Checks.due("by move", "end a;nothing", () -> whole(b, 0));
        Checks.due("by graft of the other", "end a;end a", () -> whole(b, 1));
        Checks.due("by graft of nothing", "nothing;nothing", () -> whole(b, 8));
        Checks.due("out and that graft are two", "nothing;nothing", () -> whole(b, 7));
        Checks.due("forms of both", 35, () -> 10 * b.mend(7, 0) + b.mend(8, 0));
        b.tries(9);
        int last = b.count(6) - 1;
        Checks.due("graft of nothing is right", 8, () -> b.alive(last, 0));
        b.make(last);
        Checks.due("two that do nothing are alike", 0, () -> b.count(3));
        Checks.due("no doubles", 0, () -> b.count(4));
        Checks.due("nothing ends with a", 0, () -> b.ends(5, 5, false));
    }

    private static void move() {
        Checks.of("(4) MOVE: it changes its place with the next LINE (if there is one, and it is not alike)");
        MendBench b = Checks.withBody("end 0;end 1;end 01;end 2");
        StringBuilder moved = new StringBuilder();
        for (int i = 0; i < b.count(3); i++) {
            moved.append(b.mend(i, 0) == 4 ? " " + b.mend(i, 1) + ":" + whole(b, i) : "");
        }
        Checks.due("moves", " 0:end 1;end 0;end 1;end 2 2:end 0;end 1;end 2;end 1", moved::toString);
        MendBench one = Checks.withBody("end 5");
        Checks.due("no next line", "2 2 3 ", () -> one.mend(0, 0) + " " + one.mend(1, 0) + " " + one.mend(2, 0) + " ");
        Checks.due("three mends", 3, () -> one.count(3));
        MendBench ten = Checks.withBody("end 0;end 1;end 2;end 3;end 4;end 5;end 6;end 7;end 8;end 9");
        int moves = 0;
        int last = -1;
        for (int i = 0; i < ten.count(3); i++) {
            moves += ten.mend(i, 0) == 4 ? 1 : 0;
            last = ten.mend(i, 0) == 4 ? i : last;
        }
        int nine = moves;
        int lastMove = last;
        Checks.due("nine moves of ten lines", 9, () -> nine);
        Checks.due("the last of them", "end 0;end 1;end 2;end 3;end 4;end 5;end 6;end 7;end 9;end 8", () -> whole(ten, lastMove));
        Checks.due("its line", 8, () -> ten.mend(lastMove, 1));
    }

    private static void graft() {
        Checks.of("(5) GRAFT: it is as each other LINE that is not alike, in order");
        mends("end 0;end 99;end 00;end 99", "2 0 end 1", "3 0 nothing", "4 0 end 99", "5 0 end 99", "5 0 end 99", "2 1 end 98",
            "3 1 nothing", "4 1 end 0", "5 1 end 0", "5 1 end 0", "2 2 end 1", "3 2 nothing", "4 2 end 99", "5 2 end 99", "5 2 end 99", "2 3 end 98",
            "3 3 nothing", "5 3 end 0", "5 3 end 0");
        mends("end 0;set a=0", "2 0 end 1", "3 0 nothing", "4 0 set a=0", "5 0 set a=0", "0 1 set b=0", "0 1 set c=0", "0 1 set d=0", "2 1 set a=1",
            "3 1 nothing", "5 1 end 0");
        MendBench ten = Checks.withBody("end 0;end 0;end 0;end 0;end 0;end 0;end 0;end 0;end 0;end 99");
        Checks.due("one line that is not alike for nine, and nine for it", 9 * (1 + 1 + 1) + 1 + (1 + 1 + 9), () -> ten.count(3));
        Checks.due("the last graft", "end 0;end 0;end 0;end 0;end 0;end 0;end 0;end 0;end 0;end 0", () -> whole(ten, ten.count(3) - 1));
        MendBench most = Checks.withBody("set a=a+b;set a=a+c;set a=a+d;set a=a+x;set a=a+y;set b=a+b;set b=a+c;set b=a+d;set b=a+x;set b=a+y");
        Checks.due("ten lines of 13 names, 4 signs, out and 9 grafts, and 9 moves", 10 * 27 + 9, () -> most.count(3));
        Checks.due("doubles of 27 on each line", 45 * 27 * 27, () -> most.count(4));
        Checks.due("the last of most", "set a=a+b;set a=a+c;set a=a+d;set a=a+x;set a=a+y;set b=a+b;set b=a+c;set b=a+d;set b=a+x;set b=a+x",
            () -> whole(most, 278));
    }

    private static void alike() {
        Checks.of("Two LINES are alike, if all that they tell is the same: blanks, and a 0 ahead in a NUMBER, do not count");
        String[][] pairs = {{"end 5", "end 05", "1"}, {"end 0", " end  00 ", "1"}, {"set a=b", "set a = b", "1"}, {"end 5", "end 50", "0"},
            {"skip 1 if a<5", "skip1if a < 05", "1"}, {"skip 1 if a<5", "back 1 if a<5", "0"}, {"skip 1 if a<5", "skip 2 if a<5", "0"},
            {"skip 1 if a<5", "skip 1 if a>5", "0"}, {"skip 1 if a<5", "skip 1 if 5<a", "0"}, {"set a=b", "set b=b", "0"}, {"set a=b", "end b", "0"},
            {"end a+b", "end b+a", "0"}, {"end a", "end a+0", "0"}, {"end a+1", "end a-1", "0"}, {"end a", "end b", "0"}, {"end 1+2", "end 1+02", "1"},
            {"end x", "end y", "0"}, {"end 09%0", "end 9 % 00", "1"}};
        for (String[] p : pairs) {
            MendBench b = Checks.withBody(p[0] + ";" + p[1]);
            int found = 0;
            for (int i = 0; i < b.count(3); i++) {
                found += b.mend(i, 0) >= 4 ? 1 : 0;
            }
            int wholeOnes = found;
            Checks.due("moves and grafts of " + p[0] + ";" + p[1], p[2].equals("1") ? 0 : 3, () -> wholeOnes);
        }
    }

    /** The pairs that the document tells, from what the single MENDS tell. */
    private static List<int[]> pairs(MendBench b) {
        List<int[]> found = new ArrayList<>();
        int singles = b.count(3);
        int[] form = new int[singles];
        int[] line = new int[singles];
        for (int i = 0; i < singles; i++) {
            form[i] = b.mend(i, 0);
            line[i] = b.mend(i, 1);
        }
        for (int i = 0; i < singles; i++) {
            for (int j = i + 1; j < singles; j++) {
                if (line[i] != line[j] && form[i] != 4 && form[j] != 4) {
                    found.add(new int[] {i, j});
                }
            }
        }
        return found;
    }

    /** All ALIVE ones of a BODY, a MEND of which makes its RUNS right: each number is that of its two single MENDS. */
    private static void pairsOf(String text, int alive, int... runs) {
        pairsOn(text, Checks.withRuns(text, runs), alive);
    }

    private static void pairsOn(String text, MendBench b, int alive) {
        List<int[]> pairs = pairs(b);
        int singles = b.count(3);
        Checks.due("doubles of " + text, pairs.size(), () -> b.count(4));
        while (b.tries(400) > 0) {
            Checks.due("it has an end", true, () -> b.count(5) <= singles + pairs.size());
        }
        Checks.due("all are tried of " + text, singles + pairs.size(), () -> b.count(5));
        Checks.due("alive of " + text, alive, () -> b.count(6));
        for (int i = 0; i < b.count(6); i++) {
            int k = i;
            int number = b.alive(i, 0);
            int first = number < singles ? number : pairs.get(number - singles)[0];
            int second = number < singles ? -1 : pairs.get(number - singles)[1];
            Checks.due("first of " + number, first, () -> b.alive(k, 1));
            Checks.due("second of " + number, second, () -> b.alive(k, 2));
        }
    }

    private static void doubles() {
        Checks.of("DOUBLE ones follow: of each two MENDS i below j on unlike LINES, that are no MOVES: both; by i, then j");
        // the END must be y: by "end y" on the last LINE, with each MEND of the others that does not end ahead of it
        pairsOf("set a=1;set b=2;end x", 1 + 7 + 7, 5, 9, 9);
        // by the first LINE alone, with each of the others that leaves a as it is
        pairsOf("set a=1;set b=0;set c=99", 1 + 5 + 5, 0, 0, 2);
        // by the LINE between: with OUT and a graft of the first one on the last one
        pairsOf("set c=0;set a=1;end a", 1 + 6 + 2, 0, 0, 2);
        pairsOf("set b=1;set c=2;set d=3;end x", 1 + 8 + 8 + 8, 5, 9, 9);
        pairsOf("set b=1;set c=1;set b=1;set c=1;end x", 1 + 4 * 7 + 1, 5, 9, 9);
        // by two alone: 2 * 2, b * b and c * c
        pairsOf("set b=1;set c=1;end b*c", 3, 0, 0, 4);
        pairsOf("end 7;end 7;end 7", 0, 0, 0, 0);
        MendBench one = Checks.withBody("end 5");
        Checks.due("no doubles of one line", 0, () -> one.count(4));
        Checks.due("three are all", 3, () -> one.tries(400));
        MendBench few = Checks.withRuns("end 5;end 5", 0, 0, 5);
        few.tries(6);
        few.make(few.count(6) - 1);
        // 2 bounds, OUT, MOVE, GRAFT of end 5; one GRAFT of the LINE that does nothing
        Checks.due("six singles", 6, () -> few.count(3));
        Checks.due("doubles with the one of a last line", 4, () -> few.count(4));
        Checks.due("all ten are tried", 10, () -> few.tries(400));
        MendBench none = new MendBench();
        Checks.due("no doubles without a body", 0, () -> none.count(4));
        MendBench b = Checks.withRuns("end 5;end 6", 0, 0, 7);
        // each LINE: 2 bounds, OUT, GRAFT; the first one moves too
        Checks.due("nine singles", 9, () -> b.count(3));
        Checks.due("no move among the doubles", 16, () -> b.count(4));
        b.tries(25);
        Checks.due("the last double", 24, () -> b.row(7, 0));
        Checks.due("alive: none but with out of the first and 7", 1, () -> b.count(6));
        Checks.due("out and 7", 9 + 2 * 4 + 1, () -> b.alive(0, 0));
        Checks.due("out", 2, () -> b.alive(0, 1));
        Checks.due("7, behind the move", 6, () -> b.alive(0, 2));
        Checks.due("both", 7, () -> b.aliveEnds(0, 3, 3));
    }

    /** From now on a LINE does nothing; a LAW that nothing keeps puts out what is alive ahead of that MEND. */
    private static void makeOut(MendBench b, int line) {
        int out = 0;
        while (b.mend(out, 0) != 3 || b.mend(out, 1) != line) {
            out++;
        }
        Checks.putLaw(b, "1 = 2");
        b.tries(out);
        b.bar();
        b.tries(1);
        int number = out;
        Checks.due("out of line " + line, number, () -> b.alive(0, 0));
        b.make(0);
        Checks.due("it does nothing", 4, () -> b.line(-1, line, 0));
    }

    private static void doublesOnNothing() {
        Checks.of("DOUBLE ones: on a LINE that does nothing are its grafts, of which the first is behind its MOVE");
        MendBench b = Checks.withBody("set b=b+2;set c=1;set d=3;end b");
        makeOut(b, 2);
        b.run(0, 0, 5);
        // names 5, V 3, signs 4, bounds 2, OUT, MOVE, GRAFT 3; V 3, bounds 2, OUT, MOVE, GRAFT 3; MOVE, GRAFT 3; names 5, OUT, GRAFT 3
        Checks.due("singles", 19 + 10 + 4 + 9, () -> b.count(3));
        Checks.due("doubles", 18 * (9 + 3 + 9) + 9 * (3 + 9) + 3 * 9, () -> b.count(4));
        // b + 3 on the first LINE, and its graft on the second one or on the third one
        pairsOn("b + 3 and b + 2", b, 2);
        Checks.due("b + 3, first", 13, () -> b.alive(0, 1));
        Checks.due("graft on the second", 26, () -> b.alive(0, 2));
        Checks.due("b + 3 again", 13, () -> b.alive(1, 1));
        Checks.due("graft on the third, behind its move", 30, () -> b.alive(1, 2));
        Checks.due("both", 5, () -> b.aliveEnds(1, 9, 9));
        MendBench two = Checks.withBody("set a=1;set b=2;set c=3;set d=4;end x");
        makeOut(two, 1);
        makeOut(two, 0);
        two.run(5, 9, 9);
        // GRAFT 3; MOVE, GRAFT 3; V 3, bounds 2, OUT, MOVE, GRAFT 4, twice; names 5, OUT, GRAFT 4
        Checks.due("singles of two that do nothing", 3 + 4 + 11 + 11 + 10, () -> two.count(3));
        // "end y" on the last LINE, alone and with each that is no "end x" ahead of it
        pairsOn("end y", two, 1 + 2 + 2 + 9 + 9);
    }

    private static void doublesOnUnlikeLines() {
        Checks.of("DOUBLE ones: on LINES with other numbers (NOTES.md), also where these are alike");
        MendBench b = Checks.withBody("end 0;end 0");
        Checks.due("singles", 4, () -> b.count(3));
        Checks.due("doubles", 4, () -> b.count(4));
        MendBench ten = Checks.withBody("end 0;end 0;end 0;end 0;end 0;end 0;end 0;end 0;end 0;end 0");
        Checks.due("two on each line", 20, () -> ten.count(3));
        Checks.due("45 times four", 180, () -> ten.count(4));
        Checks.of("DOUBLE ones: both are made of the BODY as it is");
        MendBench graft = Checks.withRuns("set a=3;set b=3;end a", 1, 1, 4);
        graft.tries(400);
        StringBuilder alive = new StringBuilder();
        for (int i = 0; i < graft.count(6); i++) {
            alive.append(" ").append(graft.mend(graft.alive(i, 1), 0)).append(graft.alive(i, 2) == -1 ? "" : "" + graft.mend(graft.alive(i, 2), 0));
        }
        // a = 4; with each on line 1 but V a and the graft of line 0, which is a = 3 still; with OUT and a graft on line 2; b = 4 with end b
        Checks.due("forms of those alive", " 2 20 20 22 22 23 25 23 25 20", alive::toString);
    }

    private static void mendTold() {
        Checks.of("mend: 2 how many WRONG RUNS are RIGHT by it, 3 how many RIGHT ones are WRONG by it");
        MendBench b = Checks.withBody("end 5");
        for (int what = 2; what < 4; what++) {
            int w = what;
            Checks.due("without runs " + what, 0, () -> b.mend(1, w));
        }
        for (int i = 0; i < 12; i++) {
            b.run(i, 0, i < 7 ? 6 : i < 11 ? 5 : 4);
        }
        Checks.due("6 mends seven", 7, () -> b.mend(1, 2));
        Checks.due("6 breaks four", 4, () -> b.mend(1, 3));
        Checks.due("4 mends one", 1, () -> b.mend(0, 2));
        Checks.due("4 breaks four", 4, () -> b.mend(0, 3));
        Checks.due("out mends none", 0, () -> b.mend(2, 2));
        Checks.due("out breaks four", 4, () -> b.mend(2, 3));
        MendBench all = Checks.withBody("end x");
        for (int i = 0; i < 12; i++) {
            all.run(i, i, i);
        }
        Checks.due("y breaks none of twelve", 0, () -> all.mend(4, 3));
        Checks.due("a breaks eleven of twelve", 11, () -> all.mend(0, 3));
        MendBench none = Checks.withBody("end 0 - 1");
        for (int i = 0; i < 12; i++) {
            none.run(0, 0, 1);
        }
        Checks.due("plus mends twelve", 12, () -> none.mend(0, 2));
        MendBench move = Checks.withRuns("end 1;end 2", 0, 0, 2, 0, 0, 1);
        Checks.due("move mends one", 1, () -> move.mend(3, 2));
        Checks.due("move breaks one", 1, () -> move.mend(3, 3));
    }

    private static void mendRefused() {
        Checks.of("mend: IndexOutOfBoundsException, then NoSuchElementException");
        MendBench none = new MendBench();
        Checks.due("no body", "IndexOutOfBoundsException", () -> none.mend(0, 0));
        Checks.due("no body, another what", "IndexOutOfBoundsException", () -> none.mend(0, 4));
        MendBench b = Checks.withBody("end 5;end 6");
        for (int mend : new int[] {-1, 9, 10, 300, Integer.MIN_VALUE, Integer.MAX_VALUE}) {
            Checks.due("mend " + mend, "IndexOutOfBoundsException", () -> b.mend(mend, 0));
            Checks.due("mend " + mend + ", another what", "IndexOutOfBoundsException", () -> b.mend(mend, 4));
        }
        for (int what : new int[] {-1, 4, Integer.MIN_VALUE, Integer.MAX_VALUE}) {
            Checks.due("what " + what, "NoSuchElementException", () -> b.mend(0, what));
        }
        Checks.due("the last mend", 5, () -> b.mend(8, 0));
        Checks.due("the last what", 0, () -> b.mend(8, 3));
    }

    private static String told(MendBench b, int mend, int line) {
        StringBuilder text = new StringBuilder();
        for (int what = 0; what < 6; what++) {
            text.append(what == 0 ? "" : " ").append(b.line(mend, line, what));
        }
        return text.toString();
    }

    private static void lineTold() {
        Checks.of("line: 0 its kind, 1 V (NONE), 2 first ATOM, 3 OP or SIGN, 4 second ATOM (NONE), 5 COUNT (0)");
        String[][] rows = {{"set a=b", "0 0 1 0 -1 0"}, {"set d=0", "0 3 10 0 -1 0"}, {"set b=x+y", "0 1 4 1 5 0"}, {"set c=99-0", "0 2 109 2 10 0"},
            {"end a*d", "3 -1 0 3 3 0"}, {"end b/c", "3 -1 1 4 2 0"}, {"end y%99", "3 -1 5 5 109 0"}, {"end 0", "3 -1 10 0 -1 0"},
            {"skip 1 if a<b", "1 -1 0 6 1 1"}, {"skip 9 if x>y", "1 -1 4 7 5 9"}, {"back 5 if 9=09", "2 -1 19 8 19 5"}, {"back 1 if 0<99", "2 -1 10 6 109 1"}};
        for (String[] r : rows) {
            MendBench b = Checks.withBody(r[0]);
            Checks.due(r[0], r[1], () -> told(b, -1, 0));
        }
        Checks.of("line: a LINE that does nothing tells NONE, NONE, 0, NONE, 0 (NOTES.md)");
        MendBench b = Checks.withBody("skip 9 if x>y");
        Checks.due("nothing", "4 -1 -1 0 -1 0", () -> told(b, b.count(3) - 1, 0));
        MendBench set = Checks.withBody("set d=a+b");
        Checks.due("nothing of set", "4 -1 -1 0 -1 0", () -> told(set, set.count(3) - 1, 0));
    }

    private static void lineRefused() {
        Checks.of("line: IndexOutOfBoundsException (no such MEND or LINE), then NoSuchElementException");
        MendBench none = new MendBench();
        Checks.due("no body", "IndexOutOfBoundsException", () -> none.line(-1, 0, 0));
        Checks.due("no body, no mend", "IndexOutOfBoundsException", () -> none.line(0, 0, 6));
        MendBench b = Checks.withBody("end 5;end 6");
        for (int mend : new int[] {-2, 9, 10, 300, Integer.MIN_VALUE, Integer.MAX_VALUE}) {
            Checks.due("mend " + mend, "IndexOutOfBoundsException", () -> b.line(mend, 0, 0));
            Checks.due("mend " + mend + ", another what", "IndexOutOfBoundsException", () -> b.line(mend, 0, 6));
        }
        for (int line : new int[] {-1, 2, 10, Integer.MIN_VALUE, Integer.MAX_VALUE}) {
            Checks.due("line " + line, "IndexOutOfBoundsException", () -> b.line(-1, line, 0));
            Checks.due("line " + line + " by a mend", "IndexOutOfBoundsException", () -> b.line(8, line, 6));
        }
        for (int what : new int[] {-1, 6, Integer.MIN_VALUE, Integer.MAX_VALUE}) {
            Checks.due("what " + what, "NoSuchElementException", () -> b.line(-1, 1, what));
            Checks.due("what " + what + " by a mend", "NoSuchElementException", () -> b.line(8, 1, what));
        }
        Checks.due("the last of all", 0, () -> b.line(8, 1, 5));
        Checks.due("line of a double is none", "IndexOutOfBoundsException", () -> b.line(b.count(3), 0, 0));
    }
}
