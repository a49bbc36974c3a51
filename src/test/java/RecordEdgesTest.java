/** The edges of THE IMAGE and of count, a sentence each: promises 31 to 33. */
public final class RecordEdgesTest {
    public static void main(String[] args) {
        noImage();
        emptyImage();
        oneImage();
        butForTape();
        imageOfTexts();
        imageOfRuns();
        imageOfTries();
        imageOfThirty();
        imageOfRows();
        imageOfMade();
        imageOfBoxAndOrder();
        countsOfNone();
        countsOfAll();
        countsAtTheirMost();
        Checks.finish();
    }

    private static void noImage() {
        Checks.of("back: false, and nothing happens, if none was kept");
        MendBench b = Checks.withRuns("end 5", 0, 0, 6);
        b.tries(2);
        Checks.due("none was kept", false, b::back);
        Checks.due("the body stays", 1, () -> b.count(0));
        Checks.due("the run stays", 1, () -> b.count(1));
        Checks.due("what was tried stays", 2, () -> b.count(5));
        Checks.due("what is kept stays", 1, () -> b.alive(0, 0));
    }

    private static void emptyImage() {
        Checks.of("image: of a new object");
        MendBench b = new MendBench();
        b.image();
        Checks.putBody(b, "end 5;end 6");
        Checks.putSecond(b, "end 6");
        Checks.putLaw(b, "r = 5");
        b.run(0, 0, 7);
        b.tries(25);
        b.teach(2);
        b.box(15);
        b.make(0);
        Checks.due("back", true, b::back);
        int[] want = {0, 0, 0, 0, 0, 0, 0, 0, 0, 0, 0, 0, 7};
        for (int i = 0; i < want.length; i++) {
            int what = i;
            Checks.due("count " + i, want[i], () -> b.count(what));
        }
        Checks.due("no body", "IllegalStateException", () -> b.ends(0, 0, false));
        Checks.due("no second", "IllegalStateException", () -> b.ends(0, 0, true));
        Checks.due("no law", "IllegalStateException", b::bar);
        Checks.due("no run", "IndexOutOfBoundsException", () -> b.look(0, 0));
        Checks.due("no mend", "IndexOutOfBoundsException", () -> b.mend(0, 0));
        Checks.due("no row", "NoSuchElementException", () -> b.row(0, 0));
        Checks.due("nothing to try", "IllegalStateException", () -> b.tries(1));
        Checks.due("nothing taken back", false, b::takeBack);
        Checks.due("nothing was taught", 1, () -> b.teach(2));
    }

    private static void oneImage() {
        Checks.of("THE IMAGE (one) of all may be kept, and gone back to (but for THE IMAGE itself)");
        MendBench b = Checks.withBody("end 1");
        b.image();
        Checks.putBody(b, "end 2");
        b.image();
        Checks.putBody(b, "end 3");
        Checks.due("back", true, b::back);
        Checks.due("to the latest image", 2, () -> b.ends(0, 0, false));
        Checks.due("back again", true, b::back);
        Checks.due("the image stays", 2, () -> b.ends(0, 0, false));
        Checks.putBody(b, "end 4");
        Checks.due("back once more", true, b::back);
        Checks.due("to the same", 2, () -> b.ends(0, 0, false));
        b.run(0, 0, 1);
        b.tries(2);
        b.back();
        Checks.due("what came behind it is gone", 0, () -> b.count(1) + b.count(5));
        b.run(0, 0, 1);
        b.image();
        b.back();
        Checks.due("a new image", 1, () -> b.count(1));
    }

    private static void butForTape() {
        Checks.of("gone back to (but for the TAPE, fault())");
        MendBench b = new MendBench();
        b.feed(0x656e6420, 0x31000000, 0, 0, 0);
        b.image();
        b.end(5);
        Checks.due("back", true, b::back);
        Checks.due("the tape has five", false, () -> b.end(6));
        Checks.due("all five", 1, () -> b.body(false));
        Checks.due("end 1", 1, () -> b.ends(0, 0, false));
        b.back();
        Checks.due("the tape is used up still", false, () -> b.end(1));
        Checks.due("no body", 0, () -> b.count(0));
        b.feed(0x656e6420, 0x7a000000, 0, 0, 0);
        Checks.due("a wrong one", "IllegalArgumentException", () -> b.body(false));
        b.back();
        Checks.due("fault stays", 4, b::fault);
        b.image();
        Checks.putBody(b, "end 1");
        b.back();
        Checks.due("fault of the latest text", -1, b::fault);
    }

    private static void imageOfTexts() {
        Checks.of("THE IMAGE of all: BODY, SECOND and LAW");
        MendBench b = Checks.withBody("set a = 1;set b = 2;set c = 3;set d = 4;set b = 5;set b = 6;set b = 7;set b = 8;set b = 9;end b");
        Checks.putSecond(b, "set a = 9;set b = 8;set c = 7;set d = 6;set b = 5;set b = 4;set b = 3;set b = 2;set b = 1;end b + x");
        Checks.putLaw(b, "not (x = 1 and y = 1) and (r = 9 or r = 8)");
        b.tries(1);
        b.box(1);
        b.image();
        Checks.putBody(b, "end 1");
        Checks.putSecond(b, "end 2");
        Checks.putLaw(b, "r = 1");
        b.box(2);
        Checks.due("back", true, b::back);
        Checks.due("ten lines", 10, () -> b.count(0));
        Checks.due("the last line", 9, () -> b.ends(0, 0, false));
        Checks.due("the second", 8, () -> b.ends(7, 0, true));
        Checks.due("its lines", 10, () -> b.count(11));
        Checks.due("the law", 1, () -> b.prove(0, false));
        Checks.due("where", 17, () -> b.prove(0, true));
        for (int i = 0; i < 10; i++) {
            int line = i;
            int v = i < 4 ? i : i < 9 ? 1 : -1;
            Checks.due("line " + i, v, () -> b.line(-1, line, 1));
        }
        Checks.due("its mends", "IndexOutOfBoundsException", () -> b.mend(b.count(3), 0));
    }

    private static void imageOfRuns() {
        Checks.of("THE IMAGE of all: RUNS");
        MendBench b = Checks.withBody("end x");
        for (int i = 0; i < 12; i++) {
            b.run(i, 15 - i, 100 + i);
        }
        b.image();
        MendBench empty = Checks.withBody("end x");
        empty.image();
        for (int i = 0; i < 12; i++) {
            empty.run(15 - i, i, i);
        }
        empty.back();
        Checks.due("no run", 0, () -> empty.count(1));
        Checks.due("the first again", 0, () -> empty.run(0, 0, 0));
        b.back();
        for (int i = 0; i < 12; i++) {
            int run = i;
            Checks.due("x of " + i, i, () -> b.look(run, 0));
            Checks.due("y of " + i, 15 - i, () -> b.look(run, 1));
            Checks.due("number of " + i, 100 + i, () -> b.look(run, 2));
        }
        MendBench some = Checks.withRuns("end x", 1, 2, 3, 4, 5, 6);
        some.image();
        some.run(7, 8, 9);
        some.back();
        some.run(9, 10, 11);
        int[] want = {1, 2, 3, 4, 5, 6, 9, 10, 11};
        for (int i = 0; i < 9; i++) {
            int run = i / 3;
            int what = i % 3;
            Checks.due("run " + run + " what " + what, want[i], () -> some.look(run, what));
        }
        some.back();
        Checks.due("two runs", 2, () -> some.count(1));
    }

    private static void imageOfTries() {
        Checks.of("THE IMAGE of all: what was tried, kept, PLEASED and BARRED");
        MendBench b = Checks.withBody("end x + y");
        b.tries(12);
        Checks.putLaw(b, "r = r and not y = 7 or r > x");
        b.box(3);
        b.run(3, 3, 6);
        // kept: y + y, x + x; put out: a b c d + y, x + a b c d, x - y, x * is not tried
        Checks.due("two are kept", 2, () -> b.count(6));
        Checks.putLaw(b, "not r = 4 or x = 2 and y = 2 or x = 2");
        Checks.due("y + y is barred: 4 at 0 2", 1, b::bar);
        b.image();
        int[] want = new int[13];
        for (int i = 0; i < 13; i++) {
            want[i] = b.count(i);
        }
        Checks.due("twelve tried", 12, () -> want[5]);
        Checks.due("one kept", 1, () -> want[6]);
        Checks.due("twelve alive", 12, () -> want[7]);
        Checks.due("ten pleased", 10, () -> want[8]);
        Checks.due("one barred", 1, () -> want[9]);
        b.tries(3);
        b.run(1, 2, 9);
        Checks.putLaw(b, "0 = 1");
        b.bar();
        Checks.putBody(b, "end 4;end 5;end 6");
        b.tries(9);
        b.bar();
        Checks.due("back", true, b::back);
        for (int i = 0; i < 13; i++) {
            int what = i;
            Checks.due("count " + i, want[i], () -> b.count(what));
        }
        Checks.due("x + x", 9, () -> b.alive(0, 0));
        Checks.due("no more", "IndexOutOfBoundsException", () -> b.alive(1, 0));
        Checks.due("it goes on from the thirteenth", 1, () -> b.tries(1));
        Checks.due("its number", 12, () -> b.row(7, 0));
    }

    private static void imageOfThirty() {
        Checks.of("THE IMAGE of all: thirty that are kept, each");
        MendBench b = Checks.withBody("set b=1;set c=2;end 7");
        b.tries(3);
        Checks.putLaw(b, "0 = 1");
        b.bar();
        b.tries(30);
        b.image();
        Checks.putBody(b, "end 5");
        b.tries(3);
        b.back();
        for (int i = 0; i < 30; i++) {
            int k = i;
            Checks.due("kept " + i, 3 + i, () -> b.alive(k, 0));
        }
        Checks.due("no more", "IndexOutOfBoundsException", () -> b.alive(30, 0));
        Checks.due("three were barred", 3, () -> b.count(9));
    }

    private static void imageOfRows() {
        Checks.of("THE IMAGE of all: ROWS, torn as they are");
        MendBench b = Checks.withRuns("end x + y", 3, 3, 6);
        b.tries(10);
        b.tear(3, 5);
        b.tear(7, -1);
        b.image();
        for (int i = 0; i < 8; i++) {
            b.tear(i, 77 + i);
        }
        b.tries(5);
        Checks.due("back", true, b::back);
        // mends 2 to 9: y + y and x + x are right
        int[] runs = {0, 0, -1, 5, 0, 0, 0, 0};
        for (int i = 0; i < 8; i++) {
            int row = i;
            Checks.due("mend of row " + i, 2 + i, () -> b.row(row, 0));
            Checks.due("run of row " + i, runs[i], () -> b.row(row, 1));
        }
        Checks.due("torn is torn", 3, b::check);
        b.tear(3, 5);
        Checks.due("the other one", 7, b::check);
        b.tear(7, -1);
        Checks.due("as it was", -1, b::check);
        Checks.due("the image is not torn back", true, b::back);
        Checks.due("it is torn still", 3, b::check);
        MendBench few = Checks.withBody("end 5");
        few.tries(1);
        few.image();
        few.tries(2);
        few.tear(0, 1);
        few.back();
        Checks.due("one row", "NoSuchElementException", () -> few.row(1, 0));
        Checks.due("as it was", -1, few::check);
    }

    private static void imageOfMade() {
        Checks.of("THE IMAGE of all: what can be TAKEN BACK");
        MendBench b = Checks.withBody("end 50");
        for (int i = 0; i < 6; i++) {
            b.tries(2);
            b.make(1);
        }
        b.image();
        for (int i = 0; i < 6; i++) {
            b.tries(2);
            b.make(0);
        }
        Checks.due("50 again", 50, () -> b.ends(0, 0, false));
        b.takeBack();
        Checks.due("back", true, b::back);
        Checks.due("six", 6, () -> b.count(10));
        Checks.due("ends", 56, () -> b.ends(0, 0, false));
        for (int i = 5; i >= 0; i--) {
            int ends = 50 + i;
            Checks.due("taken back " + i, true, b::takeBack);
            Checks.due("ends " + i, ends, () -> b.ends(0, 0, false));
        }
        Checks.due("no more", false, b::takeBack);
        b.back();
        Checks.putBody(b, "end 1");
        Checks.due("none of another body", false, b::takeBack);
        b.back();
        Checks.due("of the image they are there", true, b::takeBack);
        Checks.due("its mends", 3, () -> b.count(3));
    }

    private static void imageOfBoxAndOrder() {
        Checks.of("THE IMAGE of all: the BOX and what was taught");
        MendBench b = new MendBench();
        for (int form = 0; form < 6; form++) {
            for (int n = 0; n <= form; n++) {
                b.teach(form);
            }
        }
        b.box(11);
        b.image();
        for (int form = 0; form < 6; form++) {
            b.teach(form);
            b.teach(form);
        }
        b.box(2);
        Checks.due("back", true, b::back);
        Checks.due("the box", 11, () -> b.count(12));
        for (int form = 0; form < 6; form++) {
            int f = form;
            Checks.due("taught " + form, form + 2, () -> b.teach(f));
        }
        b.back();
        Checks.due("taught of the image", 2, () -> b.teach(0));
    }

    private static void countsOfNone() {
        Checks.of("count: NONE for another what; 2: 0 without a BODY");
        MendBench b = new MendBench();
        for (int what : new int[] {-1, 13, 14, 100, Integer.MIN_VALUE, Integer.MAX_VALUE}) {
            Checks.due("what " + what, -1, () -> b.count(what));
        }
        b.run(0, 0, 5);
        Checks.due("a run", 1, () -> b.count(1));
        Checks.due("none is wrong without a body", 0, () -> b.count(2));
        Checks.putSecond(b, "end 1");
        Checks.due("nor with a second", 0, () -> b.count(2));
        Checks.putBody(b, "end 1");
        Checks.due("one is wrong", 1, () -> b.count(2));
    }

    private static void countsOfAll() {
        Checks.of("count: each what");
        MendBench b = Checks.withRuns("end 5;end 6;end 7", 0, 0, 5, 0, 1, 5, 0, 2, 5, 1, 0, 6);
        b.run(1, 1, 7);
        Checks.putSecond(b, "end 1;end 2;end 3;end 4");
        Checks.putLaw(b, "r < 99");
        b.box(9);
        // MENDS: 2 bounds, OUT, 2 grafts of each LINE, and two moves
        int[] want = {3, 5, 2, 3 * 5 + 2, 3 * 5 * 5, 0, 0, 0, 0, 0, 0, 4, 9};
        for (int i = 0; i < 13; i++) {
            int what = i;
            Checks.due("count " + i, want[i], () -> b.count(what));
        }
        MendBench none = Checks.withBody("end 5");
        none.tries(3);
        Checks.putLaw(none, "r > 3");
        none.bar();
        none.run(0, 0, 4);
        none.tries(3);
        int[] counts = {1, 1, 1, 3, 0, 3, 1, 3, 1, 1, 0, 0, 7};
        for (int i = 0; i < 13; i++) {
            int what = i;
            Checks.due("count " + i + " of the other", counts[i], () -> none.count(what));
        }
        none.make(0);
        int[] made = {1, 1, 0, 3, 0, 0, 0, 0, 0, 0, 1, 0, 7};
        for (int i = 0; i < 13; i++) {
            int what = i;
            Checks.due("count " + i + " of what is made", made[i], () -> none.count(what));
        }
    }

    private static void countsAtTheirMost() {
        Checks.of("count: 7 ALIVE ones in all as they were tried, 5 how many were tried, at their most");
        MendBench b = Checks.withBody("set a=a+b;set a=a+c;set a=a+d;set a=a+x;set a=a+y;set b=a+b;set b=a+c;set b=a+d;set b=a+x;set b=a+y");
        int all = 279 + 45 * 27 * 27;
        Checks.due("all", all, () -> b.count(3) + b.count(4));
        for (int i = 1; i <= all / 400; i++) {
            int tried = 400;
            Checks.due("tries " + i, tried, () -> b.tries(400));
        }
        Checks.due("the last ones", all % 400, () -> b.tries(400));
        Checks.due("no more", 0, () -> b.tries(400));
        Checks.due("all are tried", all, () -> b.count(5));
        Checks.due("all are alive", all, () -> b.count(7));
        Checks.due("the first thirty are kept", 30, () -> b.count(6));
        Checks.due("the last row", all - 1, () -> b.row(7, 0));
    }
}
