/** The edges of TRY, ALIVE, PLEASED, ROWS and ORDER, a sentence each: promises 14 to 18 and 28 to 30, MENDS in Terms. */
public final class TryEdgesTest {
    public static void main(String[] args) {
        triesRefused();
        triesInTurn();
        triesOfAll();
        firstNotRight();
        firstThirty();
        thirtyAtOnce();
        pleasedWhenTold();
        pleasedByRefusedRun();
        laterRun();
        anotherBody();
        sameState();
        aliveTold();
        aliveRefused();
        aliveEndsAnyInput();
        rowsLatestEight();
        rowsRefused();
        tornAndChecked();
        tornRowsGo();
        teaching();
        firstInOrder();
        firstByForms();
        firstOfNone();
        Checks.finish();
    }

    private static void counts(MendBench b, String name, int tried, int kept, int inAll, int pleased) {
        Checks.due(name + ": tried", tried, () -> b.count(5));
        Checks.due(name + ": kept", kept, () -> b.count(6));
        Checks.due(name + ": alive in all", inAll, () -> b.count(7));
        Checks.due(name + ": pleased", pleased, () -> b.count(8));
    }

    private static void triesRefused() {
        Checks.of("tries: IllegalArgumentException: not 0 to 400; IllegalStateException");
        MendBench none = new MendBench();
        MendBench b = Checks.withBody("end 5");
        for (int n : new int[] {-1, 401, Integer.MIN_VALUE, Integer.MAX_VALUE}) {
            Checks.due("tries " + n, "IllegalArgumentException", () -> b.tries(n));
            Checks.due("told first: tries " + n, "IllegalArgumentException", () -> none.tries(n));
        }
        Checks.due("no body, 0", "IllegalStateException", () -> none.tries(0));
        Checks.due("no body, 400", "IllegalStateException", () -> none.tries(400));
        counts(b, "refused", 0, 0, 0, 0);
        Checks.due("0", 0, () -> b.tries(0));
        counts(b, "by 0", 0, 0, 0, 0);
        Checks.due("no row by 0", "NoSuchElementException", () -> b.row(0, 0));
        MendBench large = Checks.withBody("set a=a+b;set b=a+b;end a+b");
        Checks.due("400 at once", 400, () -> large.tries(400));
        Checks.due("400 are tried", 400, () -> large.count(5));
    }

    private static void triesInTurn() {
        Checks.of("TRY: so many MENDS more, from the one that was not tried yet on");
        MendBench b = Checks.withRuns("end x * y", 2, 2, 4);
        Checks.due("first four", 4, () -> b.tries(4));
        counts(b, "four", 4, 0, 0, 0);
        Checks.due("y * y", 1, () -> b.tries(1));
        counts(b, "five", 5, 1, 1, 0);
        Checks.due("its number", 4, () -> b.alive(0, 0));
        Checks.due("none of none", 0, () -> b.tries(0));
        Checks.due("the next one", 1, () -> b.tries(1));
        Checks.due("its row", 5, () -> b.row(5, 0));
        counts(b, "six", 6, 1, 1, 0);
    }

    private static void triesOfAll() {
        Checks.of("tries: how many were tried (fewer, if there are no more)");
        MendBench b = Checks.withBody("end 5;end 6");
        // 9 singles, 16 doubles
        Checks.due("24", 24, () -> b.tries(24));
        Checks.due("one is left", 1, () -> b.tries(2));
        Checks.due("none is left", 0, () -> b.tries(400));
        Checks.due("none of one", 0, () -> b.tries(1));
        counts(b, "all", 25, 25, 25, 0);
        Checks.due("the last one", 24, () -> b.alive(24, 0));
        MendBench exact = Checks.withBody("end 5;end 6");
        Checks.due("25 at once", 25, () -> exact.tries(25));
        MendBench more = Checks.withBody("end 5;end 6");
        Checks.due("fewer than 26", 25, () -> more.tries(26));
        MendBench one = Checks.withBody("end 5");
        Checks.due("fewer than 4", 3, () -> one.tries(4));
    }

    private static void firstNotRight() {
        Checks.of("TRY: each is tried on the RUNS in order, till one is not RIGHT");
        MendBench b = Checks.withBody("end 5");
        b.run(0, 0, 4);
        for (int i = 1; i < 12; i++) {
            b.run(i, 0, i < 11 ? 4 : 6);
        }
        b.tries(3);
        Checks.due("4 is wrong at the twelfth", 11, () -> b.row(0, 1));
        Checks.due("6 is wrong at the first", 0, () -> b.row(1, 1));
        Checks.due("out is wrong at the first", 0, () -> b.row(2, 1));
        counts(b, "none alive", 3, 0, 0, 0);
        MendBench divided = Checks.withRuns("end x + y", 4, 2, 2, 0, 0, 0);
        // names a b c d y | a b c d x | - * / % | out: x - y is right in both, x / y in the first alone
        divided.tries(13);
        Checks.due("x - y", -1, () -> divided.row(5, 1));
        Checks.due("x / y is divided in the second", 1, () -> divided.row(7, 1));
        MendBench none = Checks.withBody("end 5");
        none.tries(3);
        Checks.due("without runs all are alive", 3, () -> none.count(6));
        Checks.due("no run", -1, () -> none.row(2, 1));
    }

    private static void firstThirty() {
        Checks.of("ALIVE: all RUNS are RIGHT by it: the first 30 are kept; behind that they are counted alone");
        MendBench b = Checks.withBody("set b=1;set c=2;end 7");
        b.tries(29);
        counts(b, "29", 29, 29, 29, 0);
        b.tries(1);
        counts(b, "30", 30, 30, 30, 0);
        b.tries(1);
        counts(b, "31", 31, 30, 31, 0);
        Checks.due("the 30th", 29, () -> b.alive(29, 0));
        Checks.due("the 31st is not kept", "IndexOutOfBoundsException", () -> b.alive(30, 0));
        b.tries(100);
        counts(b, "131", 131, 30, 131, 0);
        Checks.due("the first stays", 0, () -> b.alive(0, 0));
        Checks.due("the 30th stays", 29, () -> b.alive(29, 0));
        for (int i = 0; i < 30; i++) {
            int k = i;
            Checks.due("kept " + i, i, () -> b.alive(k, 0));
        }
        b.run(0, 0, 99);
        counts(b, "all put out", 131, 0, 131, 30);
    }

    private static void thirtyAtOnce() {
        Checks.of("ALIVE: the first 30 are kept: at once (NOTES.md)");
        MendBench b = Checks.withBody("set b=1;set c=2;end x");
        b.tries(30);
        counts(b, "30", 30, 30, 30, 0);
        // end a, c, d, OUT and both grafts of the last LINE do not end with 1
        b.run(1, 1, 1);
        counts(b, "six are put out", 30, 24, 30, 6);
        b.tries(1);
        counts(b, "one more", 31, 25, 31, 6);
        Checks.due("it is behind the others", 30, () -> b.alive(24, 0));
        // with V a on line 0: 31 to 34 and 38 are alive, end b, c and d are not; then OUT is
        b.tries(8);
        counts(b, "thirty again", 39, 30, 36, 6);
        Checks.due("the last of them", 38, () -> b.alive(29, 0));
        b.tries(1);
        counts(b, "and no more", 40, 30, 37, 6);
        Checks.due("it stays the last", 38, () -> b.alive(29, 0));
    }

    private static void pleasedWhenTold() {
        Checks.of("PLEASED: those ALIVE ones that a later RUN puts out (when it is told)");
        MendBench b = Checks.withBody("end x");
        b.tries(6);
        counts(b, "all", 6, 6, 6, 0);
        b.run(0, 0, 0);
        counts(b, "all end with 0", 6, 6, 6, 0);
        b.run(0, 3, 3);
        // y alone
        counts(b, "y", 6, 1, 6, 5);
        Checks.due("y stays", 4, () -> b.alive(0, 0));
        b.run(0, 3, 3);
        counts(b, "the same run again", 6, 1, 6, 5);
        b.run(0, 3, 4);
        counts(b, "none", 6, 0, 6, 6);
        b.run(0, 3, 4);
        counts(b, "none to put out", 6, 0, 6, 6);
        MendBench order = Checks.withBody("end x");
        order.tries(6);
        order.run(2, 0, 0);
        counts(order, "none put out", 6, 6, 6, 0);
        MendBench gap = Checks.withBody("end x + 5");
        gap.tries(13);
        gap.run(0, 1, 5);
        // y + 5 and x * / % 5, x + 4 and 6, out are put out at 0 1: a b c d + 5 stay
        Checks.due("a", 0, () -> gap.alive(0, 0));
        Checks.due("d", 3, () -> gap.alive(3, 0));
        Checks.due("four stay", 4, () -> gap.count(6));
    }

    private static void pleasedByRefusedRun() {
        Checks.of("a call that throws changes nothing: a RUN that is refused puts none out");
        MendBench b = Checks.withBody("end x");
        for (int i = 0; i < 12; i++) {
            b.run(0, 0, 0);
        }
        b.tries(6);
        Checks.due("13th", "UnsupportedOperationException", () -> b.run(0, 3, 3));
        Checks.due("no input", "IllegalArgumentException", () -> b.run(0, 16, 3));
        Checks.due("no number", "IllegalArgumentException", () -> b.run(0, 3, 1000000));
        counts(b, "nothing changed", 6, 6, 6, 0);
    }

    private static void laterRun() {
        Checks.of("A RUN told later is asked of kept ALIVE ones alone, and of all that are tried then");
        MendBench b = Checks.withRuns("end x", 1, 1, 1);
        // a b c d are wrong, y is alive
        b.tries(5);
        counts(b, "y", 5, 1, 1, 0);
        b.run(0, 0, 0);
        counts(b, "those not kept are not asked", 5, 1, 1, 0);
        Checks.due("the rows stay as they were told", 0, () -> b.row(0, 1));
        b.run(0, 3, 0);
        counts(b, "y is put out", 5, 0, 1, 1);
        Checks.due("its row stays", -1, () -> b.row(4, 1));
        b.tries(1);
        counts(b, "out is asked of all runs", 6, 0, 1, 1);
        Checks.due("out is wrong in the first", 0, () -> b.row(5, 1));
        MendBench c = Checks.withBody("end x");
        c.tries(4);
        c.run(0, 3, 0);
        counts(c, "all four end with 0", 4, 4, 4, 0);
        c.tries(2);
        counts(c, "y is asked of it", 6, 5, 5, 0);
        Checks.due("the row of y", 0, () -> c.row(4, 1));
        Checks.due("the row of out", -1, () -> c.row(5, 1));
    }

    /** A bench on which something is tried, kept, PLEASED and BARRED. */
    private static MendBench busy() {
        MendBench b = Checks.withBody("end x");
        b.tries(6);
        b.run(0, 3, 0);
        Checks.putLaw(b, "r = 0 and x < 99 and not y = 99");
        b.run(0, 0, 0);
        Checks.due("y was pleased", 1, () -> b.count(8));
        Checks.putLaw(b, "r < 1");
        Checks.due("none barred", 0, b::bar);
        Checks.putSecond(b, "end 1;end 2");
        b.teach(3);
        return b;
    }

    private static void anotherBody() {
        Checks.of("With another BODY (also MADE or TAKEN BACK) nothing is tried, kept, PLEASED, BARRED, no ROW is there; RUNS stay");
        for (int way = 0; way < 4; way++) {
            MendBench b = busy();
            int kind = way;
            if (way == 0) {
                Checks.putBody(b, "end y");
            } else if (way == 1) {
                Checks.putBody(b, "end x");
            } else {
                b.make(2);
            }
            if (way == 3) {
                b.tries(6);
                Checks.putLaw(b, "r > 0");
                Checks.due("barred before", 5, b::bar);
                b.takeBack();
            }
            counts(b, "way " + way, 0, 0, 0, 0);
            Checks.due("barred " + way, 0, () -> b.count(9));
            Checks.due("row " + way, "NoSuchElementException", () -> b.row(0, 0));
            Checks.due("alive " + way, "IndexOutOfBoundsException", () -> b.alive(0, 0));
            Checks.due("check " + way, -1, b::check);
            Checks.due("runs " + way, 2, () -> b.count(1));
            Checks.due("second " + way, 2, () -> b.count(11));
            Checks.due("law " + way, 0, b::bar);
            Checks.due("taught " + way, 2, () -> b.teach(3));
            Checks.due("box " + way, 7, () -> b.count(12));
            Checks.due("to be taken back " + way, kind == 2 ? 1 : 0, () -> b.count(10));
            Checks.due("from the first on " + way, 1, () -> b.tries(1));
            Checks.due("number " + way, 0, () -> b.row(0, 0));
        }
        MendBench barred = Checks.withBody("end x");
        barred.tries(6);
        Checks.putLaw(barred, "r = 1");
        Checks.due("six barred", 6, barred::bar);
        Checks.putBody(barred, "end x");
        Checks.due("nothing is barred", 0, () -> barred.count(9));
    }

    private static void sameState() {
        Checks.of("the SECOND, a LAW, RUNS and texts that are refused leave what was tried as it is");
        MendBench b = Checks.withBody("end x");
        b.tries(3);
        Checks.putSecond(b, "end y");
        Checks.putLaw(b, "r = 5");
        Checks.feedText(b, "end z");
        Checks.due("wrong body", "IllegalArgumentException", () -> b.body(false));
        Checks.feedText(b, "");
        Checks.due("no body", "IllegalArgumentException", () -> b.body(false));
        b.box(3);
        b.teach(1);
        b.run(0, 0, 0);
        counts(b, "three", 3, 3, 3, 0);
        Checks.due("three rows", 2, () -> b.row(2, 0));
    }

    private static void aliveTold() {
        Checks.of("alive: 0 its number (of DOUBLE ones of all MENDS), 1, 2 the single MENDS of which it is made (2: NONE of a single one)");
        MendBench b = Checks.withRuns("end 5;end 6", 0, 0, 7);
        b.tries(25);
        Checks.due("its number", 9 + 9, () -> b.alive(0, 0));
        Checks.due("its first", 2, () -> b.alive(0, 1));
        Checks.due("its second", 6, () -> b.alive(0, 2));
        MendBench single = Checks.withBody("end 5;end 6");
        single.tries(25);
        for (int i = 0; i < 9; i++) {
            int k = i;
            Checks.due("single " + i, i, () -> single.alive(k, 0));
            Checks.due("first of single " + i, i, () -> single.alive(k, 1));
            Checks.due("none of single " + i, -1, () -> single.alive(k, 2));
        }
        int[] firsts = {0, 1, 2, 4};
        int[] seconds = {5, 6, 7, 8};
        for (int i = 9; i < 25; i++) {
            int k = i;
            Checks.due("double " + i, i, () -> single.alive(k, 0));
            Checks.due("first of double " + i, firsts[(i - 9) / 4], () -> single.alive(k, 1));
            Checks.due("second of double " + i, seconds[(i - 9) % 4], () -> single.alive(k, 2));
        }
    }

    private static void aliveRefused() {
        Checks.of("alive: IndexOutOfBoundsException (kept), then NoSuchElementException");
        MendBench b = Checks.withBody("end 5");
        Checks.due("none kept", "IndexOutOfBoundsException", () -> b.alive(0, 0));
        b.tries(2);
        for (int i : new int[] {-1, 2, 30, Integer.MIN_VALUE, Integer.MAX_VALUE}) {
            Checks.due("alive " + i, "IndexOutOfBoundsException", () -> b.alive(i, 0));
            Checks.due("alive " + i + ", another what", "IndexOutOfBoundsException", () -> b.alive(i, 3));
            Checks.due("ends of " + i, "IndexOutOfBoundsException", () -> b.aliveEnds(i, 0, 0));
        }
        for (int what : new int[] {-1, 3, Integer.MIN_VALUE, Integer.MAX_VALUE}) {
            Checks.due("what " + what, "NoSuchElementException", () -> b.alive(1, what));
        }
        Checks.due("the last of all", -1, () -> b.alive(1, 2));
    }

    private static void aliveEndsAnyInput() {
        Checks.of("aliveEnds: END of the kept ALIVE one i with any input");
        MendBench b = Checks.withBody("end x * y");
        b.tries(15);
        Checks.due("a * y", 0, () -> b.aliveEnds(0, 77777, 5));
        Checks.due("y * y", 10000, () -> b.aliveEnds(4, 7, -100));
        Checks.due("y * y beyond", 2000002, () -> b.aliveEnds(4, 7, 65536));
        Checks.due("x + y", 999999, () -> b.aliveEnds(10, 1000000, -1));
        Checks.due("x / y", 2000001, () -> b.aliveEnds(12, Integer.MIN_VALUE, 0));
        Checks.due("x % y", 0, () -> b.aliveEnds(13, Integer.MIN_VALUE, -1));
        Checks.due("out", 0, () -> b.aliveEnds(14, Integer.MIN_VALUE, Integer.MAX_VALUE));
        MendBench over = Checks.withBody("back 1 if x = 5");
        over.tries(6);
        Checks.due("back 1 if a = 5", 0, () -> over.aliveEnds(0, 5, 5));
        Checks.due("back 1 if x < 5", 2000003, () -> over.aliveEnds(5, 4, 0));
    }

    private static void rowsLatestEight() {
        Checks.of("TRIES: the latest 8 (MEND, and the first RUN that is not RIGHT; NONE): ROWS (from 0, the oldest, on)");
        MendBench b = Checks.withRuns("end x * y", 2, 2, 4, 3, 3, 9);
        for (int n = 1; n <= 15; n++) {
            int tried = n;
            b.tries(1);
            int oldest = Math.max(0, n - 8);
            int rows = Math.min(n, 8);
            Checks.due("oldest of " + n, oldest, () -> b.row(0, 0));
            Checks.due("latest of " + n, tried - 1, () -> b.row(rows - 1, 0));
            Checks.due("no more of " + n, "NoSuchElementException", () -> b.row(rows, 0));
        }
        // y * y 4, x * x 9, x + y 10 is right in the first alone; oldest is 7
        int[] want = {0, 0, -1, 1, 0, 0, 0, 0};
        for (int i = 0; i < 8; i++) {
            int k = i;
            Checks.due("mend of row " + i, 7 + i, () -> b.row(k, 0));
            Checks.due("run of row " + i, want[i], () -> b.row(k, 1));
        }
        b.tries(400);
        Checks.due("no more tried, rows stay", 7, () -> b.row(0, 0));
        b.tries(0);
        Checks.due("none tried, rows stay", 14, () -> b.row(7, 0));
        MendBench many = Checks.withBody("end 5;end 6");
        many.tries(400);
        Checks.due("oldest of many", 17, () -> many.row(0, 0));
        Checks.due("latest of many: a double", 24, () -> many.row(7, 0));
    }

    private static void rowsRefused() {
        Checks.of("row, tear: NoSuchElementException: there is none such");
        MendBench b = Checks.withBody("end 5");
        Checks.due("no body's row", "NoSuchElementException", () -> new MendBench().row(0, 0));
        Checks.due("no body's tear", "NoSuchElementException", () -> new MendBench().tear(0, 0));
        Checks.due("no row", "NoSuchElementException", () -> b.row(0, 0));
        Checks.due("no row to tear", "NoSuchElementException", () -> b.tear(0, 0));
        b.tries(2);
        for (int i : new int[] {-1, 2, 3, 6, 7, 8, Integer.MIN_VALUE, Integer.MAX_VALUE}) {
            Checks.due("row " + i, "NoSuchElementException", () -> b.row(i, 0));
            Checks.due("row " + i + " what 1", "NoSuchElementException", () -> b.row(i, 1));
            Checks.due("tear " + i, "NoSuchElementException", () -> b.tear(i, 1));
        }
        for (int what : new int[] {-1, 2, Integer.MIN_VALUE, Integer.MAX_VALUE}) {
            Checks.due("what " + what, "NoSuchElementException", () -> b.row(1, what));
        }
        Checks.due("nothing torn", -1, b::check);
        MendBench eight = Checks.withBody("end 5;end 6");
        eight.tries(8);
        Checks.due("row 7", 7, () -> eight.row(7, 0));
        Checks.due("row 8", "NoSuchElementException", () -> eight.row(8, 0));
        Checks.due("tear 7", 0, () -> eight.tear(7, -1));
        Checks.due("tear 8", "NoSuchElementException", () -> eight.tear(8, 1));
        Checks.due("check 7", 7, eight::check);
    }

    private static void tornAndChecked() {
        Checks.of("tear: What ROW i tells as 1 is TORN (exclusive or): what it is then; CHECK: the first ROW that is not as it was; NONE");
        MendBench b = Checks.withRuns("end 5", 0, 0, 6);
        Checks.due("check without rows", -1, b::check);
        b.tries(3);
        Checks.due("none is torn", -1, b::check);
        int[] masks = {1, -1, Integer.MIN_VALUE, Integer.MAX_VALUE, 0x55aa55aa};
        int[] was = {0, -1, 0};
        for (int mask : masks) {
            for (int i = 0; i < 3; i++) {
                int row = i;
                int torn = was[i] ^ mask;
                Checks.due("torn " + i + " by " + mask, torn, () -> b.tear(row, mask));
                Checks.due("told as 1", torn, () -> b.row(row, 1));
                Checks.due("0 stays", row, () -> b.row(row, 0));
                Checks.due("check finds it", row, b::check);
                Checks.due("torn back", was[i], () -> b.tear(row, mask));
                Checks.due("as it was", -1, b::check);
            }
        }
        Checks.due("torn by 0", 0, () -> b.tear(0, 0));
        Checks.due("by 0 it is as it was", -1, b::check);
        b.tear(2, 4);
        Checks.due("the last", 2, b::check);
        b.tear(1, 4);
        Checks.due("the first of two", 1, b::check);
        b.tear(0, 4);
        Checks.due("the first of three", 0, b::check);
        b.tear(0, 6);
        b.tear(0, 2);
        Checks.due("torn back by parts", 1, b::check);
        Checks.due("a torn run changes no count", 1, () -> b.count(6));
    }

    private static void tornRowsGo() {
        Checks.of("CHECK: from the oldest on, of the latest 8 alone");
        MendBench b = Checks.withBody("end 5;end 6");
        b.tries(8);
        b.tear(0, 1);
        b.tear(7, 1);
        Checks.due("the oldest", 0, b::check);
        b.tries(1);
        Checks.due("it is gone, the other is one older", 6, b::check);
        Checks.due("it is torn there", -2, () -> b.row(6, 1));
        Checks.due("the next is not torn", -1, () -> b.row(7, 1));
        b.tries(6);
        Checks.due("the oldest now", 0, b::check);
        b.tries(1);
        Checks.due("all are gone", -1, b::check);
        b.tear(3, 1);
        Checks.putBody(b, "end 5");
        Checks.due("of another body none", -1, b::check);
        b.tries(1);
        Checks.due("the first row of another body", -1, b::check);
        Checks.of("CHECK: of ROWS that are there alone");
        for (int torn = 0; torn < 8; torn++) {
            MendBench gone = Checks.withBody("end 5;end 6");
            gone.tries(8);
            gone.tear(torn, 1);
            Checks.putBody(gone, "end 5;end 6");
            for (int tried = 0; tried < 8; tried++) {
                Checks.due("torn " + torn + " of another body, " + tried + " rows", -1, gone::check);
                gone.tries(1);
            }
            Checks.due("torn " + torn + " of another body, 8 rows", -1, gone::check);
        }
    }

    private static void teaching() {
        Checks.of("teach: A form 0 to 5 was taught once more: how often; IllegalArgumentException: it is none");
        MendBench b = new MendBench();
        for (int form : new int[] {-1, 6, Integer.MIN_VALUE, Integer.MAX_VALUE}) {
            Checks.due("form " + form, "IllegalArgumentException", () -> b.teach(form));
        }
        for (int form = 0; form < 6; form++) {
            int f = form;
            for (int n = 1; n <= 3; n++) {
                Checks.due("form " + form, n, () -> b.teach(f));
            }
        }
        MendBench often = new MendBench();
        for (int n = 1; n <= 512; n++) {
            Checks.due("512 calls", n, () -> often.teach(5));
        }
    }

    private static void firstInOrder() {
        Checks.of("FIRST: how many single MENDS must be tried until one makes all RUNS RIGHT: in their order; none");
        MendBench b = Checks.withBody("end 5");
        Checks.due("without runs the first", 1, () -> b.first(false));
        b.run(0, 0, 6);
        Checks.due("the second", 2, () -> b.first(false));
        Checks.due("nothing is tried", 0, () -> b.count(5));
        b.tries(3);
        Checks.due("as before", 2, () -> b.first(false));
        b.run(0, 0, 6);
        Checks.due("both runs", 2, () -> b.first(false));
        b.run(0, 0, 5);
        Checks.due("none", -1, () -> b.first(false));
        MendBench out = Checks.withRuns("end 5", 0, 0, 0);
        Checks.due("the last", 3, () -> out.first(false));
        MendBench right = Checks.withRuns("end x", 0, 0, 0, 1, 0, 1);
        Checks.due("that all are right by the body does not count", -1, () -> right.first(false));
        MendBench two = Checks.withRuns("end 5;end 6", 0, 0, 7);
        Checks.due("doubles do not count", -1, () -> two.first(false));
        Checks.due("nor by order", -1, () -> two.first(true));
        MendBench next = Checks.withRuns("end 5;end 8", 0, 0, 8);
        Checks.due("out of the first is the third", 3, () -> next.first(false));
        MendBench behind = Checks.withRuns("end 5;end 8", 0, 0, 8, 1, 0, 9);
        Checks.due("the first run alone is not enough", -1, () -> behind.first(false));
    }

    private static void firstByForms() {
        Checks.of("FIRST: by forms (the most taught first, of several the lesser form; in each by numbers)");
        MendBench b = Checks.withRuns("set a=x+1;end a", 0, 5, 6);
        // y + 1 is NAME 4; no other form makes it right
        Checks.due("fifth", 5, () -> b.first(true));
        for (int form = 5; form >= 1; form--) {
            b.teach(form);
        }
        // SIGN 4, BOUND 2, OUT 2, MOVE 1, GRAFT 2 of both lines ahead of the names
        Checks.due("names are last", 4 + 2 + 2 + 1 + 2 + 5, () -> b.first(true));
        b.teach(0);
        Checks.due("all as often: the lesser form", 5, () -> b.first(true));
        b.teach(5);
        Checks.due("grafts first", 2 + 5, () -> b.first(true));
        b.teach(4);
        Checks.due("moves and grafts first", 3 + 5, () -> b.first(true));
        b.teach(0);
        Checks.due("names ahead of both", 5, () -> b.first(true));
        b.teach(4);
        Checks.due("moves ahead of names", 1 + 5, () -> b.first(true));
        Checks.due("in their order", 5, () -> b.first(false));
        MendBench later = Checks.withRuns("end x;end y+0", 0, 5, 6);
        // no single one: out of the first and 1
        Checks.due("none by order", -1, () -> later.first(true));
        MendBench last = Checks.withRuns("end 0;end 0;end 9", 1, 1, 9);
        // 1 | out | graft ; 1 | out | move | graft ; 8 10 | out | graft graft: the first graft alone
        Checks.due("bounds 4, outs 3, move 1, then the first graft", 4 + 3 + 1 + 1, () -> last.first(true));
        Checks.due("in their order", 3, () -> last.first(false));
        last.teach(5);
        Checks.due("grafts first", 1, () -> last.first(true));
        last.teach(2);
        Checks.due("bounds first", 4 + 1, () -> last.first(true));
    }

    private static void firstOfNone() {
        Checks.of("first: IllegalStateException; NONE");
        MendBench none = new MendBench();
        Checks.due("no body", "IllegalStateException", () -> none.first(false));
        Checks.due("no body, by order", "IllegalStateException", () -> none.first(true));
        MendBench b = Checks.withRuns("end 5", 0, 0, 7);
        Checks.due("none", -1, () -> b.first(false));
        Checks.due("none by order", -1, () -> b.first(true));
        for (int form = 0; form < 6; form++) {
            b.teach(form);
        }
        Checks.due("none of those taught", -1, () -> b.first(true));
        MendBench out = Checks.withBody("end 5");
        out.tries(3);
        out.make(2);
        Checks.due("no mend is left", 0, () -> out.count(3));
        Checks.due("none of none", -1, () -> out.first(false));
        Checks.due("none of none by order", -1, () -> out.first(true));
    }
}
