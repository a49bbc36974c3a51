import java.util.ArrayList;
import java.util.List;

/**
 * "a call that throws changes nothing but the TAPE, where it is used up, and fault(), where a text is read": of each refused call,
 * and of each call that only tells, all that a bench can be asked is held against a bench that was not called so.
 */
public final class RefusedTest {
    /** A call on a bench in a known state. */
    interface Deed {
        Object on(MendBench b);
    }

    private static final String[] WRONG_TEXTS = {"", "end", "end z", "end 1;", "r = ", "r = 1 or", "(r = 1", "set a = 1;set b = 100"};

    public static void main(String[] args) {
        fullIsFull();
        refusedOfFull();
        refusedOfEmpty();
        refusedTexts();
        tellingCalls();
        falseAnswers();
        order();
        Checks.finish();
    }

    /** Something of all that there is: made, tried, kept, PLEASED, BARRED, torn, taught, an image, and a TAPE with bytes. */
    private static MendBench full() {
        MendBench b = Checks.withRuns("set b = x + 1;skip 1 if b > 3;set b = 3;end b + y", 0, 0, 3, 5, 0, 6);
        Checks.putSecond(b, "set a = x + y;end a");
        Checks.putLaw(b, "r > 2 or y = 0");
        b.tries(60);
        b.make(b.count(6) - 1);
        b.tries(200);
        b.bar();
        b.run(1, 1, 4);
        b.tries(400);
        b.tries(400);
        b.tear(7, 9);
        b.teach(1);
        b.teach(4);
        b.teach(4);
        b.box(3);
        b.image();
        b.teach(5);
        b.tries(5);
        for (int i = 3; i < 12; i++) {
            b.run(0, 0, 3);
        }
        b.feed(0x656e6420, 0x78202b20, 0x79000000, 0, 0);
        b.end(9);
        return b;
    }

    private static void fullIsFull() {
        MendBench b = full();
        int[] least = {4, 12, 1, 60, 1000, 1000, 2, 8, 3, 3, 1, 2, 3};
        for (int i = 0; i < 13; i++) {
            int what = i;
            int atLeast = least[i];
            Checks.due("count " + i + " is at least " + atLeast, true, () -> b.count(what) >= atLeast);
        }
        Checks.due("a row is torn", true, () -> b.check() >= 0);
    }

    private static MendBench empty() {
        MendBench b = new MendBench();
        b.feed(0x656e6420, 0x78202b20, 0x79000000, 0, 0);
        b.end(9);
        return b;
    }

    private static Object told(Deed deed, MendBench b) {
        try {
            return deed.on(b);
        } catch (RuntimeException e) {
            return e.getClass().getSimpleName();
        }
    }

    /** All that a bench tells, in at most some 400 calls; those that change it come last. */
    private static List<Object> all(MendBench b) {
        List<Object> found = new ArrayList<>();
        for (int i = 0; i < 13; i++) {
            found.add(b.count(i));
        }
        found.add(b.fault());
        for (int run = 0; run < b.count(1); run++) {
            for (int what : new int[] {0, 1, 2, 3, 6}) {
                int r = run;
                found.add(told(x -> x.look(r, what), b));
            }
        }
        for (int line = 0; line < 10; line++) {
            int l = line;
            for (int what = 0; what < 6; what++) {
                int w = what;
                found.add(told(x -> x.line(-1, l, w), b));
            }
            found.add(told(x -> x.done(l, true), b));
        }
        for (int i = 0; i < b.count(6) + 1; i++) {
            int k = i;
            found.add(told(x -> x.alive(k, 0), b));
            found.add(told(x -> x.aliveEnds(k, 4, 2), b));
            found.add(told(x -> x.prove(k, false), b));
        }
        for (int i = 0; i < 9; i++) {
            int row = i;
            found.add(told(x -> x.row(row, 0), b));
            found.add(told(x -> x.row(row, 1), b));
        }
        for (int what = 0; what < 3; what++) {
            int w = what;
            found.add(told(x -> x.where(w), b));
        }
        Deed[] deeds = {x -> x.check(), x -> x.input(false), x -> x.input(true), x -> x.first(false), x -> x.first(true), x -> x.heaps(),
            x -> x.otherwise(-1), x -> x.ends(7, 9, true), x -> x.mend(3, 2), x -> x.putIn(4)};
        for (Deed deed : deeds) {
            found.add(told(deed, b));
        }
        changing(b, found);
        return found;
    }

    private static void changing(MendBench b, List<Object> found) {
        Deed[] deeds = {x -> x.tries(3), x -> x.count(5), x -> x.row(7, 1), x -> x.bar(), x -> x.count(9), x -> x.run(15, 15, 3), x -> x.count(8),
            x -> x.feed(0, 0, 0, 0, 0), x -> x.end(9), x -> x.body(true), x -> x.fault(), x -> x.ends(3, 4, true), x -> x.takeBack(),
            x -> x.line(-1, 0, 2), x -> x.count(10), x -> x.takeBack(), x -> x.back()};
        for (Deed deed : deeds) {
            found.add(told(deed, b));
        }
        for (int form = 0; form < 6; form++) {
            found.add(b.teach(form));
        }
        for (int i = 0; i < 13; i++) {
            found.add(b.count(i));
        }
        for (int i = 0; i < 8; i++) {
            int row = i;
            found.add(told(x -> x.row(row, 1), b));
        }
    }

    /** The same calls on two benches; on the one a refused call comes between. */
    private static void changesNothing(String name, Object want, Deed deed, boolean ofFull) {
        MendBench called = ofFull ? full() : empty();
        MendBench other = ofFull ? full() : empty();
        Checks.due(name, want, () -> deed.on(called));
        List<Object> got = all(called);
        List<Object> due = all(other);
        Checks.due(name + " changes nothing: as many answers", due.size(), () -> got.size());
        for (int i = 0; i < due.size() && i < got.size(); i++) {
            int k = i;
            Checks.due(name + " changes nothing: answer " + i, due.get(i), () -> got.get(k));
        }
    }

    private static final String BOUNDS = "IndexOutOfBoundsException";
    private static final String ARGUMENT = "IllegalArgumentException";
    private static final String STATE = "IllegalStateException";
    private static final String ELEMENT = "NoSuchElementException";

    private static void refusedOfFull() {
        Checks.of("a call that throws changes nothing");
        int[] far = {-2, 1000, Integer.MIN_VALUE, Integer.MAX_VALUE};
        for (int n : far) {
            changesNothing("run x", ARGUMENT, b -> b.run(n, 0, 0), true);
            changesNothing("run y", ARGUMENT, b -> b.run(0, n, 0), true);
            changesNothing("look", BOUNDS, b -> b.look(n, 0), true);
            changesNothing("look what", ELEMENT, b -> b.look(0, n), true);
            changesNothing("done", BOUNDS, b -> b.done(n, true), true);
            changesNothing("where", ELEMENT, b -> b.where(n), true);
            changesNothing("mend", BOUNDS, b -> b.mend(n, 0), true);
            changesNothing("mend what", ELEMENT, b -> b.mend(0, n), true);
            changesNothing("line of a mend", BOUNDS, b -> b.line(n, 0, 0), true);
            changesNothing("line", BOUNDS, b -> b.line(0, n, 0), true);
            changesNothing("line what", ELEMENT, b -> b.line(0, 0, n), true);
            changesNothing("tries", ARGUMENT, b -> b.tries(n), true);
            changesNothing("alive", BOUNDS, b -> b.alive(n, 0), true);
            changesNothing("alive what", ELEMENT, b -> b.alive(0, n), true);
            changesNothing("aliveEnds", BOUNDS, b -> b.aliveEnds(n, 0, 0), true);
            changesNothing("teach", ARGUMENT, b -> b.teach(n), true);
            changesNothing("box", ARGUMENT, b -> boxed(b, n), true);
            changesNothing("prove", BOUNDS, b -> b.prove(n, false), true);
            changesNothing("otherwise", BOUNDS, b -> b.otherwise(n), true);
            changesNothing("putIn", BOUNDS, b -> b.putIn(n), true);
            changesNothing("make", BOUNDS, b -> b.make(n), true);
            changesNothing("row", ELEMENT, b -> b.row(n, 0), true);
            changesNothing("row what", ELEMENT, b -> b.row(0, n), true);
            changesNothing("tear", ELEMENT, b -> b.tear(n, 1), true);
        }
        changesNothing("run number", ARGUMENT, b -> b.run(0, 0, 1000000), true);
        changesNothing("run number below", ARGUMENT, b -> b.run(0, 0, -1000000), true);
        changesNothing("a 13th run", "UnsupportedOperationException", b -> b.run(0, 0, 0), true);
        changesNothing("tries -1", ARGUMENT, b -> b.tries(-1), true);
        changesNothing("tries 401", ARGUMENT, b -> b.tries(401), true);
        changesNothing("teach 6", ARGUMENT, b -> b.teach(6), true);
        changesNothing("box 16", ARGUMENT, b -> boxed(b, 16), true);
        changesNothing("tear 8", ELEMENT, b -> b.tear(8, 1), true);
    }

    private static int boxed(MendBench b, int n) {
        b.box(n);
        return n;
    }

    private static void refusedOfEmpty() {
        Checks.of("IllegalStateException: there is no BODY; a call that throws changes nothing");
        changesNothing("ends", STATE, b -> b.ends(0, 0, false), false);
        changesNothing("ends of the second", STATE, b -> b.ends(0, 0, true), false);
        changesNothing("where", STATE, b -> b.where(0), false);
        changesNothing("tries", STATE, b -> b.tries(5), false);
        changesNothing("first", STATE, b -> b.first(true), false);
        changesNothing("heaps", STATE, b -> b.heaps(), false);
        changesNothing("bar", STATE, b -> b.bar(), false);
        changesNothing("otherwise", STATE, b -> b.otherwise(-1), false);
        changesNothing("look", BOUNDS, b -> b.look(0, 0), false);
        changesNothing("make", BOUNDS, b -> b.make(0), false);
        changesNothing("putIn", BOUNDS, b -> b.putIn(0), false);
        changesNothing("tear", ELEMENT, b -> b.tear(0, 1), false);
    }

    private static void refusedTexts() {
        Checks.of("a text that is refused changes nothing but the TAPE and fault()");
        for (String text : WRONG_TEXTS) {
            for (int reader = 0; reader < 3; reader++) {
                int kind = reader;
                MendBench called = full();
                MendBench other = full();
                called.end(0);
                other.end(0);
                Checks.feedText(called, text);
                Checks.due("text '" + text + "' read by " + kind, ARGUMENT, () -> kind == 2 ? (Object) called.law() : (Object) called.body(kind == 1));
                List<Object> got = all(called);
                List<Object> due = all(other);
                for (int i = 0; i < due.size(); i++) {
                    int k = i;
                    if (i != 13) {
                        Checks.due("text '" + text + "' read by " + kind + ": answer " + i, due.get(i), () -> got.get(k));
                    }
                }
                Checks.due("fault was none", -1, () -> due.get(13));
                Checks.due("fault is told", true, () -> (int) got.get(13) >= 0);
            }
        }
    }

    private static void tellingCalls() {
        Checks.of("a call that only tells changes nothing");
        MendBench b = full();
        Deed[] deeds = {x -> x.ends(9, 9, false), x -> x.ends(9, 9, true), x -> x.look(1, 6), x -> x.done(2, false), x -> x.where(1), x -> x.where(2),
            x -> x.mend(5, 3), x -> x.line(7, 1, 0), x -> x.alive(0, 2), x -> x.aliveEnds(0, 9, 9), x -> x.first(false), x -> x.first(true),
            x -> x.input(false), x -> x.input(true), x -> x.otherwise(-1), x -> x.heaps(), x -> x.putIn(0),
            x -> x.putIn(7), x -> x.row(0, 1), x -> x.tear(0, 0), x -> x.check(), x -> x.count(2), x -> x.fault(), x -> x.tries(0)};
        for (int i = 0; i < deeds.length; i++) {
            Object want = told(deeds[i], b);
            changesNothing("telling call " + i, want, deeds[i], true);
        }
    }

    private static void falseAnswers() {
        Checks.of("false (or NONE), and nothing happens");
        changesNothing("end 10 of 9", false, b -> b.end(10), true);
        changesNothing("end -1", false, b -> b.end(-1), true);
        changesNothing("no takeBack", false, b -> b.takeBack(), false);
        changesNothing("no back", false, b -> b.back(), false);
        changesNothing("too much is fed", -1, b -> {
            int has = 9;
            while (has > 0 && has <= 380) {
                has = b.feed(0, 0, 0, 0, 0);
            }
            int refused = b.feed(1, 2, 3, 4, 5);
            b.end(9);
            return refused;
        }, true);
    }

    private static void order() {
        Checks.of("Of several exceptions the one told first is thrown");
        MendBench none = new MendBench();
        Checks.due("run", ARGUMENT, () -> full().run(-1, 0, 0));
        Checks.due("look", BOUNDS, () -> none.look(0, 9));
        Checks.due("where", STATE, () -> none.where(9));
        Checks.due("mend", BOUNDS, () -> none.mend(0, 9));
        Checks.due("line", BOUNDS, () -> none.line(0, 0, 9));
        Checks.due("tries", ARGUMENT, () -> none.tries(-1));
        Checks.due("alive", BOUNDS, () -> none.alive(0, 9));
        Checks.due("prove", BOUNDS, () -> none.prove(0, true));
        Checks.due("otherwise", BOUNDS, () -> none.otherwise(0));
        none.run(1, 1, 1);
        Checks.due("look at a run", STATE, () -> none.look(0, 9));
    }
}
