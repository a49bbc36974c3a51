/** Promises 27 to 33: what is taken back, the record of tries, the image, and the counts. */
public final class RecordTest {
    public static void main(String[] args) {
        rows();
        torn();
        image();
        imageOfAll();
        counts();
        Checks.finish();
    }

    private static void rows() {
        MendBench b = Checks.withBody("end x * y");
        Checks.due("no row", "NoSuchElementException", () -> b.row(0, 0));
        b.run(0, 0, 0);
        b.run(1, 2, 2);
        b.tries(3);
        for (int i = 0; i < 3; i++) {
            int k = i;
            Checks.due("row " + i, i, () -> b.row(k, 0));
            Checks.due("run of row " + i, 1, () -> b.row(k, 1));
        }
        Checks.due("row 3", "NoSuchElementException", () -> b.row(3, 0));
        Checks.due("row -1", "NoSuchElementException", () -> b.row(-1, 0));
        Checks.due("row what 2", "NoSuchElementException", () -> b.row(0, 2));
        Checks.due("row what -1", "NoSuchElementException", () -> b.row(0, -1));
        b.tries(12);
        // names a b c d y | a b c d x | + - / % | out
        int[] runs = {1, 1, 1, 1, 1, 0, 0, 1};
        for (int i = 0; i < 8; i++) {
            int k = i;
            int want = i == 3 ? 1 : runs[i];
            Checks.due("latest row " + i, 7 + i, () -> b.row(k, 0));
            Checks.due("run of latest row " + i, want, () -> b.row(k, 1));
        }
        Checks.due("row 8", "NoSuchElementException", () -> b.row(8, 0));
        Checks.due("all as it was", -1, b::check);
        MendBench c = Checks.withBody("end 1");
        c.tries(1);
        Checks.due("no run is not right", -1, () -> c.row(0, 1));
        c.run(0, 0, 5);
        Checks.due("a row stays as it was told", -1, () -> c.row(0, 1));
        Checks.putBody(c, "end 1");
        Checks.due("no row of another body", "NoSuchElementException", () -> c.row(0, 0));
    }

    private static void torn() {
        MendBench b = Checks.withBody("end 1");
        Checks.due("tear of none", "NoSuchElementException", () -> b.tear(0, 1));
        Checks.due("check of none", -1, b::check);
        b.run(0, 0, 5);
        b.tries(3);
        Checks.due("torn", 6, () -> b.tear(2, 6));
        Checks.due("what it is then", 6, () -> b.row(2, 1));
        Checks.due("what it was of", 2, () -> b.row(2, 0));
        Checks.due("the third", 2, b::check);
        Checks.due("torn too", -1, () -> b.tear(1, -1));
        Checks.due("the second", 1, b::check);
        Checks.due("torn by nothing", 0, () -> b.tear(0, 0));
        Checks.due("still the second", 1, b::check);
        Checks.due("torn back", 0, () -> b.tear(1, -1));
        Checks.due("the third again", 2, b::check);
        Checks.due("tear 3", "NoSuchElementException", () -> b.tear(3, 1));
        Checks.due("tear -1", "NoSuchElementException", () -> b.tear(-1, 1));
        b.tear(2, 4);
        b.tear(2, 2);
        Checks.due("torn back in parts", -1, b::check);
        MendBench c = Checks.withBody("set a = x + 1;end a");
        c.tries(8);
        Checks.due("none torn", -2, () -> c.tear(3, 1));
        c.tries(3);
        Checks.due("it is the oldest now", 0, c::check);
        c.tries(1);
        Checks.due("it is gone", -1, c::check);
        Checks.due("the oldest", 4, () -> c.row(0, 0));
    }

    private static void image() {
        MendBench b = new MendBench();
        Checks.due("no image", false, b::back);
        b.image();
        Checks.putBody(b, "end 4");
        b.feed(0x656e6420, 0x39000000, 0, 0, 0);
        b.end(5);
        Checks.due("back", true, b::back);
        Checks.due("no body", 0, () -> b.count(0));
        Checks.due("no mends", 0, () -> b.count(3));
        Checks.due("the tape stays", 1, () -> b.body(false));
        Checks.due("of the tape", 9, () -> b.ends(0, 0, false));
        Checks.feedText(b, "e");
        Checks.due("a wrong one", "IllegalArgumentException", () -> b.body(false));
        Checks.due("back again", true, b::back);
        Checks.due("fault stays", 0, b::fault);
    }

    private static void imageOfAll() {
        MendBench b = Checks.withBody("end 1");
        b.tries(3);
        b.make(1);
        b.run(1, 0, 3);
        b.run(2, 0, 3);
        b.tries(3);
        b.run(3, 0, 3);
        b.tear(0, 8);
        b.teach(4);
        b.teach(0);
        b.box(3);
        Checks.putLaw(b, "r = 3");
        Checks.putSecond(b, "end 3;end 3");
        b.image();
        int[] want = new int[13];
        for (int i = 0; i < 13; i++) {
            want[i] = b.count(i);
        }
        Checks.due("one is kept", 1, () -> b.count(6));
        b.run(4, 0, 4);
        b.teach(4);
        b.box(9);
        Checks.putLaw(b, "r = 4");
        Checks.putSecond(b, "end 4");
        b.teach(0);
        Checks.putBody(b, "end 8;end 4");
        b.tries(2);
        MendBench c = Checks.withBody("end 1");
        for (int i = 1; i <= 6; i++) {
            c.tries(2);
            c.make(1);
        }
        c.image();
        for (int i = 1; i <= 6; i++) {
            c.tries(2);
            c.make(1);
        }
        c.back();
        for (int i = 6; i >= 1; i--) {
            int end = i;
            Checks.due("image: taken back " + i, true, c::takeBack);
            Checks.due("image: as it was " + i, end, () -> c.ends(0, 0, false));
        }
        Checks.due("image: no more", false, c::takeBack);
        for (int turn = 0; turn < 2; turn++) {
            Checks.due("back " + turn, true, b::back);
            for (int i = 0; i < 13; i++) {
                int what = i;
                Checks.due("count " + i, want[i], () -> b.count(what));
            }
            Checks.due("the row is torn", 0, b::check);
            Checks.due("torn row", 8, () -> b.row(0, 1));
            Checks.due("kept", 1, () -> b.alive(0, 0));
            Checks.due("the law", 0, () -> b.prove(0, false));
            Checks.due("the second", 3, () -> b.ends(0, 0, true));
            Checks.due("the body", 2, () -> b.ends(0, 0, false));
            Checks.due("the run", 3, () -> b.look(2, 0));
            Checks.due("taught", 2, () -> b.teach(4));
            Checks.due("taught 0", 2, () -> b.teach(0));
            Checks.due("tried on", 0, () -> b.tries(1));
            Checks.due("taken back", true, b::takeBack);
            Checks.due("as it was made of", 1, () -> b.ends(0, 0, false));
        }
    }

    private static void counts() {
        MendBench b = Checks.withBody("set a = x + 1;end a");
        b.run(3, 0, 5);
        b.run(0, 0, 1);
        b.run(1, 1, 2);
        Checks.due("lines", 2, () -> b.count(0));
        Checks.due("runs", 3, () -> b.count(1));
        Checks.due("wrong ones", 1, () -> b.count(2));
        Checks.due("singles", 24, () -> b.count(3));
        Checks.due("doubles", 112, () -> b.count(4));
        b.tries(30);
        Checks.due("tried", 30, () -> b.count(5));
        Checks.due("another", -1, () -> b.count(13));
        Checks.due("below", -1, () -> b.count(Integer.MIN_VALUE));
        Checks.due("above", -1, () -> b.count(Integer.MAX_VALUE));
    }
}
