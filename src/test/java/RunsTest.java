/** Promises 7 to 11: runs, what they end with, and where the fault lies. */
public final class RunsTest {
    public static void main(String[] args) {
        told();
        ended();
        limits();
        looks();
        slices();
        where();
        Checks.finish();
    }

    private static void told() {
        MendBench b = new MendBench();
        Checks.due("run 16", "IllegalArgumentException", () -> b.run(16, 0, 0));
        Checks.due("run -1", "IllegalArgumentException", () -> b.run(0, -1, 0));
        Checks.due("run y 16", "IllegalArgumentException", () -> b.run(0, 16, 0));
        Checks.due("run 1000000", "IllegalArgumentException", () -> b.run(0, 0, 1000000));
        Checks.due("run -1000000", "IllegalArgumentException", () -> b.run(0, 0, -1000000));
        Checks.due("no run yet", 0, () -> b.count(1));
        for (int i = 0; i < 12; i++) {
            int k = i;
            Checks.due("run " + i, i, () -> b.run(15 - k, k == 11 ? 15 : k, k % 2 == 0 ? 999999 : -999999));
        }
        Checks.due("13th run", "UnsupportedOperationException", () -> b.run(0, 0, 0));
        Checks.due("13th wrong run", "IllegalArgumentException", () -> b.run(0, 0, 1000000));
        Checks.due("12 runs", 12, () -> b.count(1));
        Checks.due("none is wrong without a body", 0, () -> b.count(2));
        Checks.putBody(b, "end 1");
        Checks.due("all are wrong", 12, () -> b.count(2));
    }

    private static void end(String text, int x, int y, int want) {
        Checks.due(text + " with " + x + ", " + y, want, () -> Checks.withBody(text).ends(x, y, false));
    }

    private static void ended() {
        end("set b = 5", 0, 0, 0);
        end("set a = x", 7, 0, 7);
        end("end x / y", -7, 2, -3);
        end("end x % y", -7, 2, -1);
        end("end x % y", 7, -2, 1);
        end("end x / y", 7, 0, 2000001);
        end("end x % y", 7, 0, 2000001);
        end("end x / y", Integer.MIN_VALUE, -1, 2000002);
        end("end x % y", Integer.MIN_VALUE, -1, 0);
        end("end x / y", Integer.MIN_VALUE, Integer.MIN_VALUE, 1);
        end("end x - y", Integer.MIN_VALUE, 1, 2000002);
        end("end x + y", Integer.MAX_VALUE, Integer.MAX_VALUE, 2000002);
        end("end x * y", 65536, 65536, 2000002);
        end("end x * y", Integer.MIN_VALUE, Integer.MIN_VALUE, 2000002);
        end("end x", 1000000, 0, 2000002);
        end("end x", -999999, 0, -999999);
        end("end x", -1000000, 0, 2000002);
        end("set b = x;end 1", 1000000, 0, 2000002);
        end("set b = x;end 1", 999999, 0, 1);
        end("set b = x;end 1", -999999, 0, 1);
        end("set b = x;end 1", -1000000, 0, 2000002);
        end("set a = 1;skip 1 if x = y;set a = 2;set b = 1", 3, 3, 1);
        end("set a = 1;skip 1 if x = y;set a = 2;set b = 1", 3, 4, 2);
        end("set a = 1;skip 9 if x > y;end 7", 3, 2, 1);
        end("set a = 1;skip 1 if x > y;end 7", 3, 2, 1);
        end("set a = a + 1;back 9 if a < x;end a", 5, 0, 5);
        end("set a = a + 1;back 1 if a < x;end a", 5, 0, 5);
        end("skip 1 if x < y;end 1;end 2", Integer.MIN_VALUE, Integer.MAX_VALUE, 2);
    }

    private static void limits() {
        // each turn does two lines: the 100th is the test of the 50th turn
        end("set a = a + 1;back 1 if a < x", 50, 0, 50);
        end("set a = a + 1;back 1 if a < x", 51, 0, 2000003);
        end("set a = a + 1;back 1 if a < x;end a", 50, 0, 2000003);
        end("set a = a + 1;back 1 if a < x;end a", 49, 0, 49);
        end("back 1 if 0 = 0", 0, 0, 2000003);
        MendBench b = Checks.withBody("set a = a + 1;back 1 if a < 50");
        b.run(0, 0, 50);
        Checks.due("100 lines", 100, () -> b.look(0, 5));
        Checks.due("right at 100", 1, () -> b.look(0, 4));
    }

    private static void looks() {
        MendBench b = new MendBench();
        Checks.due("look at none", "IndexOutOfBoundsException", () -> b.look(0, 0));
        b.run(3, 4, 12);
        Checks.due("look without a body", "IllegalStateException", () -> b.look(0, 0));
        Checks.due("look without a body, another what", "IllegalStateException", () -> b.look(0, 9));
        Checks.due("look beyond", "IndexOutOfBoundsException", () -> b.look(1, 9));
        Checks.due("look below", "IndexOutOfBoundsException", () -> b.look(-1, 0));
        Checks.putBody(b, "set a = x * y;set b = 2;end a");
        int[] want = {3, 4, 12, 12, 1, 3, 5};
        for (int i = 0; i < want.length; i++) {
            int what = i;
            Checks.due("look " + i, want[i], () -> b.look(0, what));
        }
        Checks.due("look 7", "NoSuchElementException", () -> b.look(0, 7));
        Checks.due("look -1", "NoSuchElementException", () -> b.look(0, -1));
        Checks.due("ends of a second", "IllegalStateException", () -> b.ends(0, 0, true));
        b.run(3, 4, 11);
        Checks.due("a wrong one", 0, () -> b.look(1, 4));
    }

    private static void slice(String text, int x, int y, int want) {
        MendBench b = Checks.withBody(text);
        b.run(x, y, 0);
        Checks.due("slice of " + text, want, () -> b.look(0, 6));
    }

    private static void slices() {
        slice("set b = 1;set c = 2;end b", 0, 0, 0b101);
        slice("set b = x;set c = b;set b = 3;end c", 0, 0, 0b1011);
        slice("set b = x", 0, 0, 0);
        slice("set a = 1;set b = a;set a = 2", 0, 0, 0b100);
        slice("set a = 1;set a = a + 1;set b = a", 0, 0, 0b011);
        // a test counts with all that it rests on, whether it holds or not
        slice("set b = 1;set c = 2;skip 1 if b < 0;set d = 1;end x", 0, 0, 0b10101);
        slice("set b = 1;skip 1 if b = 1;set a = 9;set c = 1", 0, 0, 0b0011);
        // a test behind a set is not among what the set rests on then, but END rests on all tests
        slice("set c = 1;set a = 5;skip 1 if c = 0;end a", 0, 0, 0b1111);
        slice("set b = 0;set c = 4;set d = c / b;end 1", 0, 0, 0b0111);
        slice("set b = 0;set c = 4;end c % b", 0, 0, 0b0111);
        slice("set b = 99;set c = b * b;set d = c * c;end 1", 0, 0, 0b0111);
        slice("set b = 1;set a = 2;back 2 if x = 0", 0, 0, 0b100);
        slice("set b = b + 1;back 1 if b < 3;end 7", 0, 0, 0b111);
        // V rests on the tests done ahead of it: seen where it is read by a later slice
        slice("set b = 1;skip 1 if b = 0;set a = 2;end a", 0, 0, 0b1111);
    }

    private static void where() {
        MendBench b = new MendBench();
        Checks.due("where without a body", "IllegalStateException", () -> b.where(0));
        Checks.due("where 9 without a body", "IllegalStateException", () -> b.where(9));
        Checks.due("done without a body", "IndexOutOfBoundsException", () -> b.done(0, true));
        Checks.putBody(b, "set a = x;skip 1 if x < y;set a = y;end a");
        Checks.due("where without runs", 0, () -> b.where(0) + b.where(1) + b.where(2));
        b.run(1, 5, 1);
        Checks.due("where without a wrong one", 0, () -> b.where(0) + b.where(1) + b.where(2));
        b.run(5, 2, 5);
        b.run(6, 2, 6);
        int[] right = {1, 1, 0, 1};
        for (int i = 0; i < 4; i++) {
            int at = i;
            Checks.due("done right " + i, right[i], () -> b.done(at, false));
            Checks.due("done wrong " + i, 2, () -> b.done(at, true));
        }
        Checks.due("done 4", "IndexOutOfBoundsException", () -> b.done(4, true));
        Checks.due("done -1", "IndexOutOfBoundsException", () -> b.done(-1, false));
        Checks.due("blame", 0b0100, () -> b.where(0));
        Checks.due("free", 0b0100, () -> b.where(1));
        Checks.due("agree", 0b0100, () -> b.where(2));
        Checks.due("where 3", "NoSuchElementException", () -> b.where(3));
        Checks.due("where -1", "NoSuchElementException", () -> b.where(-1));
        freeLines();
        freeBesideBlame();
    }

    private static void freeBesideBlame() {
        MendBench b = Checks.withBody("set b = x;skip 1 if b < y;set b = y;end b");
        b.run(1, 5, 1);
        b.run(5, 2, 1);
        Checks.due("blame alone", 0b0100, () -> b.where(0));
        Checks.due("line 0 is free by 1 too", 0b0101, () -> b.where(1));
        Checks.due("agree on blame", 0b0100, () -> b.where(2));
        b.run(4, 2, 3);
        Checks.due("line 0 cannot be 3", 0b0100, () -> b.where(1));
        b.run(4, 2, 21);
        Checks.due("21 is too much", 0, () -> b.where(1));
        Checks.due("none agrees", 0, () -> b.where(2));
        Checks.due("the blame stays", 0b0100, () -> b.where(0));
        MendBench c = Checks.withBody("skip 1 if x < 3;set a = 1;set b = 2;end a");
        c.run(0, 0, 7);
        c.run(5, 0, 7);
        c.run(5, 1, 1);
        // wrong: lines 0 2 3 twice, line 1 once; right: all once
        Checks.due("blame of the most", 0b1101, () -> c.where(0));
        Checks.due("free of none: line 1 is not done in the first", 0, () -> c.where(1));
    }

    private static void freeLines() {
        MendBench b = Checks.withBody("set a = x;set b = a;set c = 3;end b + c");
        b.run(1, 0, 24);
        // c or b or a may be 21 - too much; c = 23 is too much too: a and b need 21
        Checks.due("free beyond 20", 0, () -> b.where(1));
        Checks.due("blame of all", 0b1111, () -> b.where(0));
        MendBench c = Checks.withBody("set a = x;set b = a;set c = 3;end b + c");
        c.run(1, 0, 23);
        Checks.due("free 20", 0b0011, () -> c.where(1));
        c.run(1, 0, -17);
        Checks.due("free - 20 in another run", 0b0011, () -> c.where(1));
        c.run(1, 0, -18);
        Checks.due("free - 21", 0, () -> c.where(1));
        // the sum of a free line is not worked out, and a jump is no set line
        MendBench d = Checks.withBody("set a = 1 / 0;skip 1 if a = 5;set a = 0;end a");
        d.run(0, 0, 5);
        Checks.due("free of a division", 0b0001, () -> d.where(1));
        Checks.due("blame of a division", 0b0001, () -> d.where(0));
        // each time the same value
        MendBench e = Checks.withBody("set b = 1;set a = a + b;set c = c + 1;back 2 if c < 3;end a");
        e.run(0, 0, 9);
        Checks.due("free each time", 0b00011, () -> e.where(1));
        Checks.due("agree each time", 0b00011, () -> e.where(2));
    }
}
