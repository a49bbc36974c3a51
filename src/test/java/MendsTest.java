/** Promises 12 to 18: the mends of a body, tries of them, those alive, and the order of forms. */
public final class MendsTest {
    public static void main(String[] args) {
        listOfSet();
        listOfJump();
        boundsOfNumbers();
        wholeLines();
        alikeLines();
        lineDoingNothing();
        mendCounts();
        wrongArguments();
        triesAndAlive();
        doubles();
        keptOnes();
        pleased();
        order();
        Checks.finish();
    }

    /** Every what of one LINE as by a MEND, in one text. */
    private static String told(MendBench b, int mend, int line) {
        StringBuilder text = new StringBuilder();
        for (int what = 0; what < 6; what++) {
            text.append(what == 0 ? "" : " ").append(b.line(mend, line, what));
        }
        return text.toString();
    }

    private static void formsAndLines(MendBench b, int from, int line, String forms) {
        for (int i = 0; i < forms.length(); i++) {
            int mend = from + i;
            Checks.due("form of " + mend, forms.charAt(i) - '0', () -> b.mend(mend, 0));
            Checks.due("line of " + mend, line, () -> b.mend(mend, 1));
        }
    }

    private static void listOfSet() {
        MendBench b = Checks.withBody("set c = a * y");
        formsAndLines(b, 0, 0, "0000000000000" + "1111" + "3");
        Checks.due("mends", 18, () -> b.count(3));
        Checks.due("doubles of one line", 0, () -> b.count(4));
        String[] want = {"0 2 1 3 5 0", "0 2 2 3 5 0", "0 2 3 3 5 0", "0 2 4 3 5 0", "0 2 5 3 5 0", "0 2 0 3 0 0", "0 2 0 3 1 0",
            "0 2 0 3 2 0", "0 2 0 3 3 0", "0 2 0 3 4 0", "0 0 0 3 5 0", "0 1 0 3 5 0", "0 3 0 3 5 0", "0 2 0 1 5 0", "0 2 0 2 5 0",
            "0 2 0 4 5 0", "0 2 0 5 5 0", "4 -1 -1 0 -1 0"};
        for (int i = 0; i < want.length; i++) {
            int mend = i;
            Checks.due("line by mend " + i, want[i], () -> told(b, mend, 0));
        }
        Checks.due("line as it is", "0 2 0 3 5 0", () -> told(b, -1, 0));
        MendBench one = Checks.withBody("end d");
        formsAndLines(one, 0, 0, "000003");
        Checks.due("one atom as it is", "3 -1 3 0 -1 0", () -> told(one, -1, 0));
        Checks.due("one atom by mend 4", "3 -1 5 0 -1 0", () -> told(one, 4, 0));
    }

    private static void listOfJump() {
        MendBench b = Checks.withBody("skip 5 if x > 07");
        formsAndLines(b, 0, 0, "00000" + "11" + "2222" + "3");
        Checks.due("mends of skip", 12, () -> b.count(3));
        String[] want = {"1 -1 0 7 17 5", "1 -1 1 7 17 5", "1 -1 2 7 17 5", "1 -1 3 7 17 5", "1 -1 5 7 17 5", "1 -1 4 6 17 5",
            "1 -1 4 8 17 5", "1 -1 4 7 16 5", "1 -1 4 7 18 5", "1 -1 4 7 17 4", "1 -1 4 7 17 6", "4 -1 -1 0 -1 0"};
        for (int i = 0; i < want.length; i++) {
            int mend = i;
            Checks.due("skip by mend " + i, want[i], () -> told(b, mend, 0));
        }
        MendBench back = Checks.withBody("back 9 if 1 = y");
        formsAndLines(back, 0, 0, "00000" + "11" + "222" + "3");
        Checks.due("back as it is", "2 -1 11 8 5 9", () -> told(back, -1, 0));
        Checks.due("second atom first", "2 -1 11 8 0 9", () -> told(back, 0, 0));
        Checks.due("sign < first", "2 -1 11 6 5 9", () -> told(back, 5, 0));
        Checks.due("count 8", "2 -1 11 8 5 8", () -> told(back, 9, 0));
        Checks.due("count 1 has one bound", 11, () -> Checks.withBody("back 1 if 1 = y").count(3));
    }

    private static void boundsOfNumbers() {
        Checks.due("end 0", 2, () -> Checks.withBody("end 0").count(3));
        Checks.due("end 99", 2, () -> Checks.withBody("end 99").count(3));
        Checks.due("end 1", 3, () -> Checks.withBody("end 01").count(3));
        Checks.due("end 98", 3, () -> Checks.withBody("end 98").count(3));
        MendBench b = Checks.withBody("end 0 - 99");
        formsAndLines(b, 0, 0, "1111" + "22" + "3");
        Checks.due("0 has but one more", "3 -1 11 2 109 0", () -> told(b, 4, 0));
        Checks.due("99 has but one less", "3 -1 10 2 108 0", () -> told(b, 5, 0));
    }

    private static void wholeLines() {
        MendBench b = Checks.withBody("set a = 0;end 0;end 1");
        // 0: 3 names, 1 bound, out, move, 2 grafts; 1: 1 bound, out, move, 2 grafts; 2: 2 bounds, out, 2 grafts
        formsAndLines(b, 0, 0, "00023455");
        formsAndLines(b, 8, 1, "23455");
        formsAndLines(b, 13, 2, "22355");
        Checks.due("mends of three lines", 18, () -> b.count(3));
        Checks.due("moved here", "3 -1 10 0 -1 0", () -> told(b, 5, 0));
        Checks.due("moved there", "0 0 10 0 -1 0", () -> told(b, 5, 1));
        Checks.due("not moved", "3 -1 11 0 -1 0", () -> told(b, 5, 2));
        Checks.due("graft of line 1", "3 -1 10 0 -1 0", () -> told(b, 6, 0));
        Checks.due("graft of line 2", "3 -1 11 0 -1 0", () -> told(b, 7, 0));
        Checks.due("graft of line 0 on 1", "0 0 10 0 -1 0", () -> told(b, 11, 1));
        Checks.due("graft of line 2 on 1", "3 -1 11 0 -1 0", () -> told(b, 12, 1));
        Checks.due("the line behind stays", "3 -1 11 0 -1 0", () -> told(b, 12, 2));
        // doubles: 7 on line 0 with 4 on line 1 and 5 on line 2, and 4 with 5
        Checks.due("doubles", 7 * 4 + 7 * 5 + 4 * 5, () -> b.count(4));
    }

    private static void alikeLines() {
        MendBench b = Checks.withBody("end 05;end   5;end 5 ; end 6");
        // each of the three: 2 bounds, out, a graft of line 3; the third one moves too; line 3: 2 bounds, out, 3 grafts
        formsAndLines(b, 0, 0, "2235");
        formsAndLines(b, 4, 1, "2235");
        formsAndLines(b, 8, 2, "22345");
        formsAndLines(b, 13, 3, "223555");
        Checks.due("mends of alike lines", 19, () -> b.count(3));
        // of LINES with other numbers, though all that they tell may be the same
        Checks.due("doubles of alike lines", 4 * 4 + 4 * 4 + 4 * 6 + 4 * 4 + 4 * 6 + 4 * 6, () -> b.count(4));
    }

    private static void lineDoingNothing() {
        MendBench b = Checks.withBody("set b = 1;end 4");
        b.run(0, 0, 4);
        // the first out: 3 names and 2 bounds stand ahead of it
        b.tries(6);
        Checks.due("out is alive", 5, () -> b.alive(5, 0));
        Checks.due("made", 1, () -> b.make(5));
        Checks.due("it does nothing", "4 -1 -1 0 -1 0", () -> told(b, -1, 0));
        formsAndLines(b, 0, 0, "45");
        formsAndLines(b, 2, 1, "2235");
        Checks.due("its mends", 6, () -> b.count(3));
        Checks.due("nothing is grafted", "4 -1 -1 0 -1 0", () -> told(b, 5, 1));
        Checks.due("it is come to", 2, () -> b.look(0, 5));
        Checks.due("nothing rests on it", 0b10, () -> b.look(0, 6));
        b.tries(6);
        b.make(0);
        Checks.due("nothing moves behind", "4 -1 -1 0 -1 0", () -> told(b, -1, 1));
        MendBench c = Checks.withBody("end 0");
        c.run(0, 0, 0);
        c.tries(2);
        Checks.due("out ends with a", 1, () -> c.alive(0, 0));
        c.make(0);
        Checks.due("no mend is left", 0, () -> c.count(3));
        Checks.due("none can be first", -1, () -> c.first(false));
        Checks.due("none can be first by order", -1, () -> c.first(true));
        Checks.due("none can be tried", 0, () -> c.tries(400));
    }

    private static void mendCounts() {
        MendBench b = Checks.withBody("set a = x + 1;end a");
        b.run(3, 0, 5);
        b.run(0, 0, 2);
        b.run(7, 0, 8);
        Checks.due("number 2 mends two", 2, () -> b.mend(13, 2));
        Checks.due("number 2 breaks one", 1, () -> b.mend(13, 3));
        Checks.due("number 0 mends none", 0, () -> b.mend(12, 2));
        Checks.due("number 0 breaks one", 1, () -> b.mend(12, 3));
    }

    private static void wrongArguments() {
        MendBench none = new MendBench();
        Checks.due("mend of none", "IndexOutOfBoundsException", () -> none.mend(0, 9));
        Checks.due("line of none", "IndexOutOfBoundsException", () -> none.line(-1, 0, 9));
        Checks.due("tries of none", "IllegalStateException", () -> none.tries(0));
        Checks.due("tries 401 of none", "IllegalArgumentException", () -> none.tries(401));
        Checks.due("first of none", "IllegalStateException", () -> none.first(true));
        Checks.due("alive of none", "IndexOutOfBoundsException", () -> none.alive(0, 9));
        MendBench b = Checks.withBody("end 1");
        Checks.due("mend -1", "IndexOutOfBoundsException", () -> b.mend(-1, 0));
        Checks.due("mend 3", "IndexOutOfBoundsException", () -> b.mend(3, 9));
        Checks.due("mend what 4", "NoSuchElementException", () -> b.mend(0, 4));
        Checks.due("mend what -1", "NoSuchElementException", () -> b.mend(0, -1));
        Checks.due("line of mend -2", "IndexOutOfBoundsException", () -> b.line(-2, 0, 0));
        Checks.due("line of mend 3", "IndexOutOfBoundsException", () -> b.line(3, 0, 9));
        Checks.due("line 1", "IndexOutOfBoundsException", () -> b.line(0, 1, 9));
        Checks.due("line -1", "IndexOutOfBoundsException", () -> b.line(-1, -1, 0));
        Checks.due("line what 6", "NoSuchElementException", () -> b.line(0, 0, 6));
        Checks.due("line what -1", "NoSuchElementException", () -> b.line(-1, 0, -1));
        Checks.due("tries -1", "IllegalArgumentException", () -> b.tries(-1));
        Checks.due("tries 401", "IllegalArgumentException", () -> b.tries(401));
        Checks.due("tries 0", 0, () -> b.tries(0));
        Checks.due("alive 0", "IndexOutOfBoundsException", () -> b.alive(0, 0));
        Checks.due("aliveEnds 0", "IndexOutOfBoundsException", () -> b.aliveEnds(0, 0, 0));
        b.tries(1);
        Checks.due("alive what 3", "NoSuchElementException", () -> b.alive(0, 3));
        Checks.due("alive what -1", "NoSuchElementException", () -> b.alive(0, -1));
        Checks.due("alive -1", "IndexOutOfBoundsException", () -> b.alive(-1, 0));
        Checks.due("aliveEnds -1", "IndexOutOfBoundsException", () -> b.aliveEnds(-1, 0, 0));
        Checks.due("teach -1", "IllegalArgumentException", () -> b.teach(-1));
        Checks.due("teach 6", "IllegalArgumentException", () -> b.teach(6));
    }

    private static void triesAndAlive() {
        MendBench b = Checks.withBody("end x * y");
        b.run(2, 2, 4);
        // names a b c d y | a b c d x | + - / % | out
        Checks.due("four tried", 4, () -> b.tries(4));
        Checks.due("none alive", 0, () -> b.count(6));
        Checks.due("six more", 6, () -> b.tries(6));
        Checks.due("y * y and x * x", 2, () -> b.count(6));
        Checks.due("all that are left", 5, () -> b.tries(400));
        Checks.due("no more", 0, () -> b.tries(400));
        Checks.due("tried", 15, () -> b.count(5));
        int[] numbers = {4, 9, 10};
        for (int i = 0; i < 3; i++) {
            int k = i;
            Checks.due("alive " + i, numbers[i], () -> b.alive(k, 0));
            Checks.due("alive of " + i, numbers[i], () -> b.alive(k, 1));
            Checks.due("alive single " + i, -1, () -> b.alive(k, 2));
        }
        Checks.due("y * y", 9, () -> b.aliveEnds(0, 5, 3));
        Checks.due("x * x", 25, () -> b.aliveEnds(1, 5, 3));
        Checks.due("x + y", 8, () -> b.aliveEnds(2, 5, 3));
        Checks.due("x + y beyond", 2000002, () -> b.aliveEnds(2, 999999, 1));
        Checks.due("alive in all", 3, () -> b.count(7));
    }

    private static void doubles() {
        // line 0: 0 bound, out, move, graft; line 1: 1 2 bounds, out, graft
        MendBench b = Checks.withBody("set a = 9;end 1");
        Checks.due("singles", 3 + 2 + 1 + 1 + 1 + 4, () -> b.count(3));
        Checks.due("doubles", 7 * 4, () -> b.count(4));
        Checks.due("singles tried", 12, () -> b.tries(12));
        Checks.due("out on line 1 ends with a", 12, () -> b.count(6));
        b.run(0, 0, 8);
        Checks.due("none stays", 0, () -> b.count(6));
        Checks.due("all doubles tried", 28, () -> b.tries(400));
        // a = 8 (mend 3) with out (mend 10)
        Checks.due("one is alive", 1, () -> b.count(6));
        Checks.due("its number", 12 + 3 * 4 + 2, () -> b.alive(0, 0));
        Checks.due("its first", 3, () -> b.alive(0, 1));
        Checks.due("its second", 10, () -> b.alive(0, 2));
        Checks.due("made of both", 1, () -> b.make(0));
        Checks.due("made line 0", "0 0 18 0 -1 0", () -> told(b, -1, 0));
        Checks.due("made line 1", "4 -1 -1 0 -1 0", () -> told(b, -1, 1));
        // a graft takes the LINE as it is in the BODY, not as the other MEND makes it
        // a = x + 2 and a graft of line 0 as it is in the BODY: a = x + 1 behind it, so that they are not alive
        MendBench c = Checks.withBody("set a = x + 1;end a");
        c.run(3, 0, 5);
        c.run(0, 0, 2);
        c.tries(400);
        Checks.due("no graft of a mended line", 2, () -> c.count(6));
        Checks.due("the last row of all", 24 + 111, () -> c.row(7, 0));
    }

    private static void keptOnes() {
        MendBench b = Checks.withBody("set b = 1;set c = 2;end 7");
        b.tries(400);
        Checks.due("30 are kept", 30, () -> b.count(6));
        int all = b.count(3) + b.count(4);
        Checks.due("all are alive", all, () -> b.count(7));
        Checks.due("the first 30", 29, () -> b.alive(29, 0));
        Checks.due("no 31st", "IndexOutOfBoundsException", () -> b.alive(30, 0));
        Checks.due("no 31st makes", "IndexOutOfBoundsException", () -> b.make(30));
        // those that are counted alone are not asked
        b.run(0, 0, 8);
        Checks.due("still alive in all", all, () -> b.count(7));
        Checks.due("those put out were kept", 30, () -> b.count(6) + b.count(8));
    }

    private static void pleased() {
        MendBench b = Checks.withBody("end x * y");
        b.run(0, 0, 0);
        b.tries(15);
        Checks.due("thirteen", 13, () -> b.count(6));
        b.run(0, 3, 0);
        // out: y * y, x + y, x - y
        Checks.due("ten stay", 10, () -> b.count(6));
        Checks.due("three only pleased", 3, () -> b.count(8));
        b.run(3, 0, 0);
        // out: x * x
        Checks.due("nine stay", 9, () -> b.count(6));
        Checks.due("four only pleased", 4, () -> b.count(8));
        Checks.due("alive as they were tried", 13, () -> b.count(7));
        Checks.due("the order stays", 5, () -> b.alive(4, 0));
        Checks.putBody(b, "end x * y");
        Checks.due("another body: nothing pleased", 0, () -> b.count(8) + b.count(7) + b.count(6) + b.count(5));
        Checks.due("runs stay", 3, () -> b.count(1));
    }

    private static void order() {
        MendBench b = Checks.withBody("set a = x + 1;end a");
        Checks.due("first of no runs", 1, () -> b.first(false));
        b.run(3, 0, 5);
        b.run(0, 0, 2);
        Checks.due("first", 14, () -> b.first(false));
        // 13 names, 4 signs, then a = x + 0 and a = x + 2
        Checks.due("first untaught", 8 + 5 + 4 + 2, () -> b.first(true));
        Checks.due("out taught", 1, () -> b.teach(3));
        Checks.due("first by out", 2 + 8 + 5 + 4 + 2, () -> b.first(true));
        Checks.due("bound taught", 1, () -> b.teach(2));
        Checks.due("the lesser form of two", 2, () -> b.first(true));
        Checks.due("out taught again", 2, () -> b.teach(3));
        Checks.due("out ahead of bound", 4, () -> b.first(true));
        Checks.due("not by order", 14, () -> b.first(false));
        MendBench c = Checks.withBody("end 1;end 2;end x * 7");
        c.run(9, 3, 63);
        // a graft of line 2 on line 0 alone
        Checks.due("first graft", 6, () -> c.first(false));
        Checks.due("5 names, 4 signs, 6 bounds, 3 outs, 2 moves ahead of it", 22, () -> c.first(true));
        c.teach(5);
        Checks.due("first by graft", 2, () -> c.first(true));
        c.teach(0);
        Checks.due("names are the lesser form", 7, () -> c.first(true));
        Checks.putBody(b, "set a = x + 1;end a");
        Checks.due("what was taught stays", 3, () -> b.teach(3));
        b.run(1, 1, 9);
        Checks.due("first of none", -1, () -> b.first(true));
        Checks.due("first of none, not by order", -1, () -> b.first(false));
    }
}
