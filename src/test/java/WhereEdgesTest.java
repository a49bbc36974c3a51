/** The edges of SLICE, FREE and AGREE, a sentence each: promises 9 and 11, WHERE in Terms. */
public final class WhereEdgesTest {
    public static void main(String[] args) {
        lastSetLine();
        atomsThen();
        testsAheadOfSet();
        testsDone();
        endOfRun();
        endWithoutNumber();
        overSlice();
        inputsRestOnNothing();
        sliceOfTen();
        freeValues();
        freeEachRun();
        freeEachTime();
        freeInPlaceOfSum();
        freeSetLinesAlone();
        freeWithoutWrong();
        freeOfTen();
        agree();
        Checks.finish();
    }

    private static void slice(String text, int x, int y, int want) {
        MendBench b = Checks.withRuns(text, x, y, 0);
        Checks.due("slice of " + text + " with " + x + ", " + y, want, () -> b.look(0, 6));
    }

    private static void lastSetLine() {
        Checks.of("SLICE: what V rests on: the set LINE that made it last");
        slice("set a = 1;set a = 2;end a", 0, 0, 0b110);
        slice("set b = 1;set a = 2;end a", 0, 0, 0b110);
        slice("set a = 1;set b = 2;end a", 0, 0, 0b101);
        slice("set c = 1;set d = 2;end c + d", 0, 0, 0b111);
        slice("set c = 1;set d = 2;end d", 0, 0, 0b110);
        slice("set a = 1;set b = 2;set c = 3;set d = 4;end b", 0, 0, 0b10010);
        slice("end a", 0, 0, 0b1);
        slice("set a = 1;skip 1 if x = 0;set a = 2;end a", 0, 0, 0b1011);
        slice("set a = 1;skip 1 if x = 0;set a = 2;end a", 1, 0, 0b1110);
    }

    private static void atomsThen() {
        Checks.of("SLICE: with all on which its ATOMS rested then");
        slice("set b = 1;set c = b;set b = 2;end c", 0, 0, 0b1011);
        slice("set b = 1;set c = b;set b = 2;end b", 0, 0, 0b1100);
        slice("set b = 1;set c = 2;set d = b + c;end d", 0, 0, 0b1111);
        slice("set b = 1;set c = 2;set d = c + c;end d", 0, 0, 0b1110);
        slice("set b = 1;set c = b;set d = c;set a = d;end a", 0, 0, 0b11111);
        slice("set a = 1;set a = a + 1;end a", 0, 0, 0b111);
        slice("set a = 1;set a = 2 + a;end a", 0, 0, 0b111);
        slice("set a = 1;set a = 2 + 3;end a", 0, 0, 0b110);
        slice("set b = 1;set a = x + b;set b = 1;end a", 0, 0, 0b1011);
    }

    private static void testsAheadOfSet() {
        Checks.of("SLICE: and all TESTS done ahead of it; a TEST that is done: its LINE, and all on which its ATOMS rest then");
        slice("set b = 1;skip 1 if b = 1;set c = 9;set a = 3", 0, 0, 0b1011);
        slice("set b = 1;skip 1 if b = 0;set c = 9;set a = 3", 0, 0, 0b1011);
        slice("set b = 1;skip 1 if 0 = b;set c = 9;set a = 3", 0, 0, 0b1011);
        slice("set b = 1;skip 1 if x = 0;set c = 9;set a = 3", 0, 0, 0b1010);
        slice("set b = 1;set c = b;set b = 5;skip 1 if c = 1;set a = 3", 0, 0, 0b1011);
        slice("set b = 1;set c = 2;skip 1 if b = c;set d = 3;end x", 0, 0, 0b10111);
        slice("set b = 1;skip 1 if b = 1;end 1;set b = 2;end x", 0, 0, 0b10011);
    }

    private static void testsDone() {
        Checks.of("SLICE: END: all TESTS that were done, whether they hold or not, and of no other");
        slice("skip 1 if x = 0;skip 1 if y = 0;end 3", 0, 0, 0b101);
        slice("skip 1 if x = 0;skip 1 if y = 0;end 3", 1, 0, 0b011);
        slice("skip 1 if x = 0;skip 1 if y = 0;end 3", 1, 1, 0b111);
        slice("set b = 1;set c = 2;skip 1 if b = 0;skip 1 if c = 0;end 3", 0, 0, 0b11111);
        slice("set a = 1;skip 1 if x = 9;set a = 2;skip 1 if x = 8;end a", 0, 0, 0b11110);
        slice("set b = b + 1;back 1 if b < 3;set c = 5;back 9 if c < 0;end 3", 0, 0, 0b11111);
        // a TEST done twice rests on both that made its ATOM
        slice("set b = 1;skip 1 if b = 2;skip 2 if b = 3;set b = 2;back 3 if b = 2;end 7", 0, 0, 0b011111);
    }

    private static void endOfRun() {
        Checks.of("SLICE: END: the end LINE with its ATOMS (behind the last LINE: a)");
        slice("set b = 1;set c = 2;end b + c", 0, 0, 0b111);
        slice("set b = 1;set c = 2;end b", 0, 0, 0b101);
        slice("set b = 1;set c = 2;end 3 + c", 0, 0, 0b110);
        slice("set b = 1;set c = 2;end 3", 0, 0, 0b100);
        slice("end 3;set a = 1", 0, 0, 0b001);
        slice("set a = 1;set b = 2", 0, 0, 0b01);
        slice("set b = 2;set a = b;set b = 4", 0, 0, 0b011);
        slice("set b = 2", 0, 0, 0);
        slice("set a = 1;skip 9 if x = 0;end a", 0, 0, 0b011);
        slice("set b = 1;skip 9 if x = 0;end b", 0, 0, 0b010);
    }

    private static void endWithoutNumber() {
        Checks.of("SLICE: of one that is DIVIDED or BEYOND: the LINE at which it is, with its ATOMS");
        for (String bad : new String[] {"b / c", "b % c"}) {
            slice("set b = 2;set c = 0;set d = 7;set a = " + bad + ";end d", 0, 0, 0b01011);
            slice("set b = 2;set c = 0;set d = 7;end " + bad, 0, 0, 0b1011);
            slice("set b = 2;set c = 0;skip 1 if x = 1;end " + bad, 0, 0, 0b1111);
        }
        slice("set a = 5;set d = 1 / 0", 0, 0, 0b10);
        slice("set b = 99;set b = b * 99;set c = 99;set d = 1;end b * c", 0, 0, 0b10111);
        slice("set b = 99;set c = b * 99;set a = 4;set d = c * c;end d", 0, 0, 0b01011);
        slice("set b = 99;set c = b * 99;skip 1 if a = 1;set d = c * c;end d", 0, 0, 0b01111);
        // V stays as it was made last where a SUM is no number
        slice("set b = 0;set b = 4 / b;end 1", 0, 0, 0b011);
    }

    private static void overSlice() {
        Checks.of("SLICE: OVER: the TESTS alone");
        slice("set a = 1;back 1 if 0 = 0", 0, 0, 0b10);
        slice("set a = 1;set b = 2;back 1 if b = 2", 0, 0, 0b110);
        slice("set a = a + 1;set b = 2;back 2 if a > 0;end a", 0, 0, 0b101);
        slice("back 1 if 0 = 0;end a", 0, 0, 0b1);
        slice("set b = 5;skip 1 if b = 5;end 1;back 2 if x = 0;end 2", 0, 0, 0b1011);
        // it goes back to the end LINE: not OVER
        slice("set b = 5;skip 1 if b = 5;end 1;back 1 if x = 0;end 2", 0, 0, 0b1111);
        slice("set a = a + 1;back 1 if x = 0", 0, 0, 0b10);
    }

    private static void inputsRestOnNothing() {
        Checks.of("SLICE: x, y and a NUMBER rest on no LINE, nor does V that no LINE made");
        slice("set b = 1;end x + y", 0, 0, 0b10);
        slice("set b = 1;set a = x * 7;end a", 0, 0, 0b110);
        slice("set b = 1;skip 1 if x < y;end c", 0, 0, 0b110);
        slice("set b = 1;skip 1 if x < y;end c", 0, 1, 0b010);
        slice("set b = 1;end c + d", 0, 0, 0b10);
        // rested on by an earlier RUN
        MendBench b = Checks.withRuns("skip 1 if x = 0;set b = 1;end b", 1, 0, 0, 0, 0, 0);
        Checks.due("made in the first run", 0b111, () -> b.look(0, 6));
        Checks.due("not made in the second", 0b101, () -> b.look(1, 6));
        // a TEST done in an earlier RUN alone
        MendBench tests = Checks.withRuns("skip 1 if x = 0;skip 1 if y = 0;end 3;end 4", 1, 0, 0, 0, 0, 0);
        Checks.due("two tests in the first run", 0b1011, () -> tests.look(0, 6));
        Checks.due("one in the second", 0b0101, () -> tests.look(1, 6));
        Checks.due("two again", 0b1011, () -> tests.look(0, 6));
    }

    private static void sliceOfTen() {
        Checks.of("SLICE: as bits, of ten LINES");
        slice("set a = 1;set b = a;set c = b;set d = c;set a = d;set b = a;set c = b;set d = c;set a = d;end a", 0, 0, 0b1111111111);
        slice("set b = 1;set c = 1;set d = 1;set b = 1;set c = 1;set d = 1;set b = 1;set c = 1;set d = 1;end a", 0, 0, 0b1000000000);
        slice("set b = 1;set c = 1;set d = 1;set b = 1;set c = 1;set d = 1;set b = 1;set c = 1;set d = 1;set a = c", 0, 0, 0b1010000000);
        slice("set b = 1;set c = 1;set d = 1;set b = 1;set c = 1;set d = 1;set b = 1;set c = 1;set d = 1;skip 9 if d = 1", 0, 0, 0b1100000000);
    }

    private static void free(String text, int want, int... runs) {
        MendBench b = Checks.withRuns(text, runs);
        Checks.due("free of " + text, want, () -> b.where(1));
    }

    private static void freeValues() {
        Checks.of("FREE: for each there is a value - 20 to 20, so that it is RIGHT");
        for (int n = -22; n <= 22; n++) {
            free("set b = 99;end b", n >= -20 && n <= 20 ? 0b1 : 0, 0, 0, n);
            free("set b = 99;end b - 50", n >= -20 && n <= 20 ? 0b1 : 0, 0, 0, n - 50);
        }
        free("set b = x;end b * b", 0b1, 0, 0, 400);
        free("set b = x;end b * b", 0, 0, 0, 441);
        free("set b = x;end b * b", 0, 0, 0, 2);
    }

    private static void freeEachRun() {
        Checks.of("FREE: set LINES by each of which alone all WRONG RUNS could be RIGHT: for each there is a value");
        free("set b = x;set c = y;end b + c", 0b11, 1, 1, 3, 2, 2, -9, 3, 3, 6);
        free("set b = x;set c = y;end b + c", 0b11, 0, 0, 20);
        free("set b = x;set c = y;end b + c", 0b01, 0, 1, 21);
        free("set b = x;set c = y;end b + c", 0b10, 1, 0, 21);
        free("set b = x;set c = y;end b + c", 0, 1, 0, 21, 0, 1, 21);
        free("set b = x;set c = y;end b + c", 0, 1, 0, 22);
        Checks.of("FREE: RUNS that are RIGHT are not asked");
        free("skip 1 if x = 0;set b = 3;end b", 0b010, 0, 0, 0, 1, 0, 3, 2, 0, 4);
        Checks.of("FREE: a LINE that a WRONG RUN does not do");
        free("skip 1 if x = 0;set b = 3;end b", 0, 0, 0, 1, 2, 0, 4);
        free("skip 1 if x = 0;set b = 3;end b", 0, 0, 0, 1);
    }

    private static void freeEachTime() {
        Checks.of("FREE: which V gets there each time in that RUN");
        free("set b = 1;set a = a + b;set c = c + 1;back 2 if c < 3;end a", 0b00011, 0, 0, 6);
        free("set b = 1;set a = a + b;set c = c + 1;back 2 if c < 3;end a", 0b00010, 0, 0, 7);
        // b gets 7 each of the three times: 21, not 5 + 5 + 7
        free("set b = x;set a = a + b;set c = c + 1;back 3 if c < 3;end a", 0b00011, 5, 0, 17 - 2 - 3);
        free("set b = x;set a = a + b;set c = c + 1;back 3 if c < 3;end a", 0b00010, 5, 0, 17);
        // c stays below 3 by any value but 3 and more: then it ends at once
        free("set c = c + 1;set a = a + 5;back 2 if c < 3;end a", 0b0011, 0, 0, 5);
        free("set c = c + 1;set a = a + 5;back 2 if c < 3;end a", 0b0010, 0, 0, 10);
    }

    private static void freeInPlaceOfSum() {
        Checks.of("FREE: in place of the SUM (that is not worked out)");
        free("set b = 1 / 0;end b", 0b1, 0, 0, 7);
        free("set b = 1 % c;end b", 0b1, 0, 0, 7);
        free("set b = 99;set b = b * b;set b = b * b;end b", 0b100, 0, 0, 7);
        free("set b = 0;set c = 5 / b;end c", 0b11, 0, 0, 5);
        free("set b = 0;set c = 5 / b;end c", 0b10, 0, 0, 6);
        Checks.of("FREE: a RUN that is OVER could be RIGHT too");
        free("set b = 1;back 1 if b = 1;end 4", 0b001, 0, 0, 4);
        free("set b = 1;back 1 if b = 1;end 4", 0, 0, 0, 5);
    }

    private static void freeSetLinesAlone() {
        Checks.of("FREE: set LINES, no end, skip or back");
        free("end 3", 0, 0, 0, 4);
        free("set a = 3;end a", 0b01, 0, 0, 4);
        free("set a = 3", 0b1, 0, 0, 4);
        free("skip 1 if x = 0;end 4;end 5", 0, 0, 0, 4);
        free("set a = 3;back 1 if a = 4;end a", 0b001, 0, 0, 5);
        free("set d = 3;end a", 0, 0, 0, 4);
        MendBench b = Checks.withRuns("set b = 5;end x", 0, 0, 0);
        b.tries(6);
        Checks.due("out", 5, () -> b.alive(5, 0));
        b.make(5);
        b.run(0, 0, 7);
        Checks.due("a line that does nothing is none", 0, () -> b.where(1));
        Checks.due("it is done", 0b11, () -> b.where(0));
    }

    private static void freeWithoutWrong() {
        Checks.of("FREE: 0 without a WRONG one");
        free("set a = 3;end a", 0);
        free("set a = 3;end a", 0, 0, 0, 3);
        MendBench b = Checks.withRuns("set a = 3;end a", 0, 0, 3, 1, 1, 3);
        Checks.due("no blame", 0, () -> b.where(0));
        Checks.due("none agrees", 0, () -> b.where(2));
        b.run(0, 0, 4);
        Checks.due("a wrong one", 0b01, () -> b.where(1));
        Checks.due("blame", 0b11, () -> b.where(0));
        Checks.due("agree", 0b01, () -> b.where(2));
    }

    private static void freeOfTen() {
        Checks.of("FREE: as bits, of ten LINES and of twelve RUNS");
        String text = "set b = 1;set b = 1;set b = 1;set b = 1;set b = 1;set b = 1;set b = 1;set b = 1;set b = 1;set a = x";
        free(text, 1 << 9, 1, 0, 2);
        MendBench b = Checks.withBody(text);
        for (int i = 0; i < 12; i++) {
            b.run(i, 0, i + 1);
        }
        Checks.due("all twelve", 1 << 9, () -> b.where(1));
        MendBench last = Checks.withBody(text);
        for (int i = 0; i < 12; i++) {
            last.run(i, 0, i < 11 ? i + 1 : 21);
        }
        Checks.due("but for the twelfth", 0, () -> last.where(1));
        MendBench first = Checks.withBody(text);
        for (int i = 0; i < 12; i++) {
            first.run(i, 0, i > 0 ? i + 1 : 21);
        }
        Checks.due("but for the first", 0, () -> first.where(1));
    }

    private static void agree() {
        Checks.of("AGREE: LINES of BLAME, FREE and of the SLICES of all WRONG RUNS");
        MendBench b = Checks.withRuns("set b = 5;skip 1 if x = 0;set b = b + 1;set c = 2;end b", 0, 0, 5, 1, 0, 7);
        // line 2 alone is done in the wrong one and in no right one
        Checks.due("blame", 0b00100, () -> b.where(0));
        Checks.due("free", 0b00101, () -> b.where(1));
        Checks.due("agree", 0b00100, () -> b.where(2));
        MendBench apart = Checks.withRuns("set b = 5;skip 1 if x = 0;set c = 1;end b", 0, 0, 5, 1, 0, 7);
        Checks.due("blame of line 2", 0b0100, () -> apart.where(0));
        Checks.due("line 0 is free", 0b0001, () -> apart.where(1));
        Checks.due("none agrees", 0, () -> apart.where(2));
        MendBench all = Checks.withRuns("set b = 5;set c = 6;end b", 0, 0, 7);
        Checks.due("blame of all", 0b111, () -> all.where(0));
        Checks.due("line 1 is not free, nor in the slice", 0b001, () -> all.where(2));
        all.run(0, 1, 8);
        Checks.due("in both wrong ones", 0b001, () -> all.where(2));
        MendBench late = Checks.withRuns("set b = 1;set c = 1;set d = 1;set b = 1;set c = 1;set d = 1;set b = 1;set c = 1;set d = 1;end d",
            0, 0, 1, 1, 1, 2);
        Checks.due("all in as many", 0b1111111111, () -> late.where(0));
        Checks.due("agree of ten", 0b0100000000, () -> late.where(2));
    }
}
