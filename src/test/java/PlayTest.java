/** Promises 19 to 26: the box, inputs on which two end otherwise, the law, the second, heaps, faults put in, mends made. */
public final class PlayTest {
    public static void main(String[] args) {
        box();
        inputs();
        laws();
        barred();
        lawForms();
        second();
        heaps();
        faults();
        made();
        Checks.finish();
    }

    private static Object boxed(MendBench b, int n) {
        b.box(n);
        return b.count(12);
    }

    private static void box() {
        MendBench b = new MendBench();
        Checks.due("box 0", 0, () -> boxed(b, 0));
        Checks.due("box 15", 15, () -> boxed(b, 15));
        Checks.due("box 16", "IllegalArgumentException", () -> boxed(b, 16));
        Checks.due("box -1", "IllegalArgumentException", () -> boxed(b, -1));
        Checks.due("box stays", 15, () -> b.count(12));
    }

    private static void inputs() {
        MendBench b = Checks.withBody("end x * y");
        b.run(2, 2, 4);
        Checks.due("near of none", -1, () -> b.input(false));
        Checks.due("asked of none", -1, () -> b.input(true));
        b.tries(5);
        Checks.due("near of one", -1, () -> b.input(false));
        Checks.due("asked of one", -1, () -> b.input(true));
        b.tries(10);
        // y * y, x * x, x + y: at 1 2 they end with 4, 1, 3
        Checks.due("near", 16 * 1 + 2, () -> b.input(false));
        Checks.due("asked", 16 * 1 + 2, () -> b.input(true));
        b.run(6, 3, 9);
        // y * y and x + y stay: alike where y * y is x + y; 2 2 and 6 3 are steps 0 away, but alike there
        Checks.due("near of two", 16 * 1 + 2, () -> b.input(false));
        b.box(0);
        Checks.due("near, all alike", -1, () -> b.input(false));
        Checks.due("asked, all alike", 0, () -> b.input(true));
        MendBench c = Checks.withBody("end x");
        c.tries(5);
        // a, b, c, d, y; without runs all inputs are as near: those where y is not 0 come next
        Checks.due("near without runs", 1, () -> c.input(false));
        Checks.due("asked without runs", 1, () -> c.input(true));
        c.run(7, 0, 0);
        Checks.due("near a run", 16 * 7 + 1, () -> c.input(false));
        Checks.due("asked near a run", 16 * 7 + 1, () -> c.input(true));
        c.run(0, 0, 0);
        Checks.due("near the lesser run", 1, () -> c.input(false));
        // the run's input is outside of the BOX: 8 / y, 10 / y and nothing done are apart on the nearest in it
        MendBench d = Checks.withBody("end 9 / y");
        d.run(3, 11, 0);
        d.tries(400);
        Checks.due("kept of d", 3, () -> d.count(6));
        Checks.due("near a run outside", 16 * 3 + 7, () -> d.input(false));
        MendBench e = Checks.withBody("end x + 0");
        e.run(0, 0, 0);
        e.tries(5);
        // a b c d end with 0, y with y: no group of less than four
        Checks.due("asked of five", 1, () -> e.input(true));
        e.tries(400);
        // six that end with 0, y and x: at 0 1 and 1 0 seven are alike, at 1 1 six
        Checks.due("kept of e", 8, () -> e.count(6));
        Checks.due("near of e", 1, () -> e.input(false));
        Checks.due("asked of e", 16 * 1 + 1, () -> e.input(true));
    }

    private static void laws() {
        MendBench b = Checks.withBody("end x * y");
        b.tries(15);
        b.box(2);
        Checks.due("prove without a law", "IllegalStateException", () -> b.prove(0, false));
        Checks.due("prove of none without a law", "IndexOutOfBoundsException", () -> b.prove(15, false));
        Checks.due("prove -1", "IndexOutOfBoundsException", () -> b.prove(-1, true));
        Checks.due("bar without a law", "IllegalStateException", b::bar);
        Checks.putLaw(b, "r = x or r > x");
        // mend 0 is a * y: 0 is less than x at x 1 and 2
        Checks.due("broken times", 6, () -> b.prove(0, false));
        Checks.due("broken first", 16, () -> b.prove(0, true));
        // mend 10 is x + y: never less than x
        Checks.due("proved", 0, () -> b.prove(10, false));
        Checks.due("proved, none first", -1, () -> b.prove(10, true));
        // mend 12 is x / y: 0 / 0 has no number, x / 1 is x, 1 / 2 is 0, 2 / 2 is 1
        Checks.due("divided breaks it", 3 + 2, () -> b.prove(12, false));
        Checks.due("divided breaks it first", 0, () -> b.prove(12, true));
        Checks.putLaw(b, "not r = 5");
        Checks.due("divided breaks any law", 3, () -> b.prove(12, false));
        b.box(0);
        Checks.due("the box is asked", 1, () -> b.prove(12, false));
        Checks.putLaw(b, "r=r");
        Checks.due("bar", 2, b::bar);
        Checks.due("barred / and %", 13, () -> b.count(6));
        Checks.due("barred in all", 2, () -> b.count(9));
        Checks.due("not pleased", 0, () -> b.count(8));
        Checks.due("bar again", 0, b::bar);
    }

    private static void barred() {
        MendBench b = Checks.withBody("end 3");
        b.tries(3);
        Checks.putLaw(b, "r > 1");
        Checks.due("out is barred", 1, b::bar);
        Checks.putLaw(b, "r = 4");
        Checks.due("2 is barred", 1, b::bar);
        Checks.due("two barred in all", 2, () -> b.count(9));
        Checks.due("4 is kept", 1, () -> b.alive(0, 0));
        Checks.due("alive as tried", 3, () -> b.count(7));
        Checks.putBody(b, "end 3");
        Checks.due("nothing barred of another body", 0, () -> b.count(9));
    }

    /** How many inputs of the BOX 0 to 1 break a LAW by END 5. */
    private static void breaks(String law, int want) {
        MendBench b = Checks.withBody("end 6");
        b.tries(1);
        b.box(1);
        Checks.putLaw(b, law);
        Checks.due("breaks " + law, want, () -> b.prove(0, false));
    }

    private static void lawForms() {
        breaks("r = 5", 0);
        breaks("r < 5", 4);
        breaks("r > 4", 0);
        breaks("5 = r", 0);
        breaks("x = y", 2);
        breaks("x < y", 3);
        breaks("x > y", 3);
        breaks("not x = y", 2);
        breaks("not not x > y", 3);
        breaks("x = 0 and y = 0", 3);
        breaks("x = 0 or y = 0", 1);
        breaks("not x = 0 or y = 0", 1);
        breaks("not (x = 0 or y = 0)", 3);
        breaks("x = 0 or y = 0 and r = 4", 2);
        breaks("r = 4 and x = 0 or y = 0", 2);
        breaks("(x = 0 or y = 0) and r = 4", 4);
        breaks("x = 0 and (y = 0 or r = 5)", 2);
        breaks("x = 1 and y = 1 or x = 0 and y = 0 or r = 6", 2);
        breaks("((((((x=0 and (1=0) or y=1))))))".replace("(1=0)", "1=0"), 2);
        breaks("r < 9999 and r > 0000", 0);
        breaks("0005 = r", 0);
    }

    private static void second() {
        MendBench b = new MendBench();
        Checks.due("otherwise of none", "IllegalStateException", () -> b.otherwise(-1));
        Checks.due("otherwise 0 of none", "IndexOutOfBoundsException", () -> b.otherwise(0));
        Checks.due("otherwise -2", "IndexOutOfBoundsException", () -> b.otherwise(-2));
        Checks.putSecond(b, "end x + y");
        Checks.due("lines of the second", 1, () -> b.count(11));
        Checks.due("no lines", 0, () -> b.count(0));
        Checks.due("otherwise without a body", "IllegalStateException", () -> b.otherwise(-1));
        Checks.putBody(b, "end x * y");
        Checks.due("ends of the second", 9, () -> b.ends(4, 5, true));
        Checks.due("ends of the body", 20, () -> b.ends(4, 5, false));
        b.box(2);
        // alike at 0 0 and 2 2 alone
        Checks.due("otherwise of the body", 7, () -> b.otherwise(-1));
        b.tries(15);
        Checks.due("otherwise of x + y", 0, () -> b.otherwise(10));
        Checks.due("otherwise of x / y", 9, () -> b.otherwise(12));
        Checks.due("otherwise 15", "IndexOutOfBoundsException", () -> b.otherwise(15));
        Checks.putSecond(b, "end x / y");
        Checks.due("divided is as divided", 0, () -> b.otherwise(12));
        Checks.due("divided is not a rest", 4, () -> b.otherwise(13));
    }

    private static void heaps() {
        MendBench b = new MendBench();
        Checks.due("heaps of none", "IllegalStateException", b::heaps);
        Checks.putBody(b, "set a = 5;end a");
        Checks.due("heaps without runs", 0, b::heaps);
        b.run(0, 0, 5);
        Checks.due("heaps without a wrong one", 0, b::heaps);
        MendBench c = Checks.withBody("set a = 5;end a");
        c.run(0, 0, 6);
        Checks.due("one heap", 1, c::heaps);
        c.run(1, 0, 4);
        Checks.due("two heaps", 2, c::heaps);
        c.run(2, 0, 0);
        Checks.due("three heaps", 3, c::heaps);
        c.run(3, 7, 3);
        Checks.due("four heaps", 4, c::heaps);
        c.run(4, 7, 7);
        Checks.due("end y mends two", 4, c::heaps);
        c.run(5, 6, 6);
        Checks.due("end y mends three", 4, c::heaps);
        c.run(6, 0, 0);
        c.run(8, 1, 8);
        Checks.due("end x mends two", 4, c::heaps);
        c.run(9, 0, 80);
        Checks.due("one that none mends", -1, c::heaps);
        // those that are right must stay right
        MendBench d = Checks.withBody("set a = 5;end a");
        d.run(0, 0, 5);
        d.run(1, 0, 6);
        Checks.due("none keeps the right one", -1, d::heaps);
    }

    private static void faults() {
        MendBench b = Checks.withBody("end x + 1");
        Checks.due("put in -1", "IndexOutOfBoundsException", () -> b.putIn(-1));
        Checks.due("put in 12", "IndexOutOfBoundsException", () -> b.putIn(12));
        Checks.due("harmless without runs", 3, () -> b.putIn(0));
        b.run(2, 3, 0);
        // names a b c d y, signs - * / %, bounds 0 2, out
        Checks.due("x + 2 is found", 1, () -> b.putIn(10));
        Checks.due("y + 1: also y - x and the like", 2, () -> b.putIn(4));
        Checks.due("out is missed", 0, () -> b.putIn(11));
        Checks.due("the body stays", 3, () -> b.ends(2, 0, false));
        Checks.due("nothing is tried", 0, () -> b.count(5));
        b.run(4, 4, 9);
        Checks.due("y + 1 is found now", 1, () -> b.putIn(4));
        MendBench c = Checks.withBody("end x + y");
        c.run(1, 0, 3);
        // x - y and x + y are the same at y 0
        Checks.due("harmless fault", 3, () -> c.putIn(10));
        Checks.due("a + y is not harmless", true, () -> c.putIn(0) != 3);
        MendBench d = Checks.withBody("end x / y");
        d.run(1, 0, 0);
        Checks.due("runs without a number are not asked", 3, () -> d.putIn(0));
        MendBench none = new MendBench();
        Checks.due("put in of none", "IndexOutOfBoundsException", () -> none.putIn(0));
        // an end without a number counts on the box: 0 / 0 is not 0
        MendBench e = Checks.withBody("end y / x");
        e.run(1, 1, 0);
        e.run(2, 6, 0);
        e.run(3, 6, 0);
        Checks.due("y * x is found", 1, () -> e.putIn(12));
    }

    private static void made() {
        MendBench b = Checks.withBody("end 50");
        Checks.due("make of none", "IndexOutOfBoundsException", () -> b.make(0));
        for (int i = 1; i <= 8; i++) {
            b.tries(2);
            int want = Math.min(i, 6);
            Checks.due("make " + i, want, () -> b.make(1));
            Checks.due("can be taken back " + i, want, () -> b.count(10));
            int end = 50 + i;
            Checks.due("made " + i, end, () -> b.ends(0, 0, false));
            Checks.due("nothing tried " + i, 0, () -> b.count(5) + b.count(6) + b.count(7));
        }
        b.tries(2);
        for (int i = 7; i >= 2; i--) {
            int end = 50 + i;
            Checks.due("take back " + i, true, b::takeBack);
            Checks.due("taken back " + i, end, () -> b.ends(0, 0, false));
            Checks.due("nothing tried behind " + i, 0, () -> b.count(5) + b.count(6) + b.count(7));
        }
        Checks.due("six alone", false, b::takeBack);
        Checks.due("the body stays", 52, () -> b.ends(0, 0, false));
        b.tries(2);
        b.make(0);
        Checks.due("taken back again", 1, () -> b.count(10));
        b.tries(2);
        Checks.putSecond(b, "end 1");
        Checks.due("a second keeps it", 1, () -> b.count(10));
        Checks.due("make -1", "IndexOutOfBoundsException", () -> b.make(-1));
        Checks.due("make 2", "IndexOutOfBoundsException", () -> b.make(2));
        Checks.putBody(b, "end 9");
        Checks.due("with another body none", false, b::takeBack);
        Checks.due("none can be", 0, () -> b.count(10));
    }
}
