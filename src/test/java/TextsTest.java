/** Promises 1 to 6: a new object, the tape, and the texts that are read from it. */
public final class TextsTest {
    public static void main(String[] args) {
        newObject();
        tape();
        bodies();
        wrongBodies();
        laws();
        wrongLaws();
        whatWasStays();
        Checks.finish();
    }

    private static void newObject() {
        MendBench b = new MendBench();
        int[] want = {0, 0, 0, 0, 0, 0, 0, 0, 0, 0, 0, 0, 7, -1, -1};
        for (int i = 0; i < want.length; i++) {
            int what = i == 14 ? -1 : i;
            Checks.due("new count " + what, want[i], () -> b.count(what));
        }
        Checks.due("new fault", -1, b::fault);
        Checks.due("new ends", "IllegalStateException", () -> b.ends(0, 0, false));
        Checks.due("new ends of second", "IllegalStateException", () -> b.ends(0, 0, true));
        Checks.due("new back", false, b::back);
        Checks.due("new takeBack", false, b::takeBack);
        Checks.due("new check", -1, b::check);
        Checks.due("new bar", "IllegalStateException", b::bar);
        Checks.due("new input", -1, () -> b.input(true));
    }

    private static void tape() {
        MendBench b = new MendBench();
        for (int i = 1; i <= 20; i++) {
            int want = 20 * i;
            Checks.due("feed " + i, want, () -> b.feed(1, 2, 3, 4, 5));
        }
        Checks.due("feed 21", -1, () -> b.feed(1, 2, 3, 4, 5));
        Checks.due("end below 0", false, () -> b.end(-1));
        Checks.due("end beyond", false, () -> b.end(401));
        Checks.due("end of all", true, () -> b.end(400));
        Checks.due("end 381", true, () -> b.end(381));
        Checks.due("feed behind 381", -1, () -> b.feed(1, 2, 3, 4, 5));
        Checks.due("end 380", true, () -> b.end(380));
        Checks.due("feed behind 380", 400, () -> b.feed(1, 2, 3, 4, 5));
        Checks.due("end 0", true, () -> b.end(0));
        Checks.due("end 1 of none", false, () -> b.end(1));
        // the highest byte first: "end " "x + " "y * " is wrong at its second sign
        Checks.due("feed text", 20, () -> b.feed(0x656e6420, 0x78202b20, 0x79202a20, 0, 0));
        Checks.due("end text", true, () -> b.end(12));
        Checks.due("body of it", "IllegalArgumentException", () -> b.body(false));
        Checks.due("fault of it", 10, b::fault);
        Checks.due("the tape is used up", false, () -> b.end(1));
    }

    private static void bodies() {
        right("end a", 1);
        right(" end   a ", 1);
        right("seta=x+1;enda", -4);
        right("set a=x+1;end a", 2);
        right("skip2if a<b;back 9if 99>0;end 07%x", 3);
        right("end 1;end 2;end 3;end 4;end 5;end 6;end 7;end 8;end 9;end 10", 10);
        right("end 0;end 00;end 99;end x;end y;end d", 6);
        right("set d = d/d ; set c=c*c;set b=b-b", 3);
    }

    /** A BODY of so many LINES; below 0 it is one that is wrong at its first byte. */
    private static void right(String text, int lines) {
        MendBench b = new MendBench();
        Checks.feedText(b, text);
        if (lines < 0) {
            Checks.due("body " + text, "IllegalArgumentException", () -> b.body(false));
            Checks.due("fault " + text, 0, b::fault);
            return;
        }
        Checks.due("body " + text, lines, () -> b.body(false));
        Checks.due("fault " + text, -1, b::fault);
        Checks.due("lines " + text, lines, () -> b.count(0));
        Checks.due("no second " + text, 0, () -> b.count(11));
    }

    private static void wrongBodies() {
        // '^' stands ahead of the first wrong byte
        String[] texts = {"^", "  ^", "^set", "^se", "set ^", "set ^x = 1", "set ^ab = 1", "set ^az = 1", "set ^za = 1", "^setz a = 1", "^zset a = 1", "end ^z", "end a^`", "end 9^:", "end ^/9", "end ^{", "set ^1 = 1", "set a^", "set a ^+ 1",
            "set a = ^", "set a = ^e", "set a = ^aa", "set a = ^100", "set a = ^001", "set a = 1 + ^", "set a = 1 + ^123",
            "set a = 1 ^< 2", "set a = 1 ^b", "set a = 1 + 2 ^+ 3", "set a = 1;^", "set a = 1 ; ^", "set a = 1;^;", "^;end a",
            "^end", "skip ^0 if a < b", "skip ^10 if a < b", "skip ^01 if a < b", "skip ^a if a < b", "skip 1^", "skip 1 ^of a < b",
            "skip 1 ^ifa < b", "skip 1 if ^", "skip 1 if a^", "skip 1 if a ^+ b", "skip 1 if a < ^", "skip 1 if a < ^100",
            "skip 1 if a < b ^< c", "back ^0 if a = b", "back ^-1 if a = b", "back 1 if ^r = b", "^End a", "end ^A",
            "end a^\u00e9", "end a^\u0000", "^\u0000", "end a^.", "end ^-1", "^ends a", "^jump 1 if a < b", "end a ^end b",
            "end 1;end 2;end 3;end 4;end 5;end 6;end 7;end 8;end 9;end 10;^end 11",
            "end 1;end 2;end 3;end 4;end 5;end 6;end 7;end 8;end 9;end 10; ^",
            "end 1;end 2;end 3;end 4;end 5;end 6;end 7;end 8;end 9;end 10 ^end", "end 1;end 2;en^"};
        for (String marked : texts) {
            String text = marked.replace("^", "");
            int at = marked.indexOf('^');
            if (marked.equals("^set") || marked.equals("^end")) {
                at = text.length();
            } else if (marked.equals("end 1;end 2;en^")) {
                at = 12;
            }
            for (boolean second : new boolean[] {false, true}) {
                MendBench b = new MendBench();
                Checks.feedText(b, text);
                int want = at;
                Checks.due("body " + text, "IllegalArgumentException", () -> b.body(second));
                Checks.due("fault " + text, want, b::fault);
                Checks.due("nothing of " + text, 0, () -> b.count(0) + b.count(11));
            }
        }
    }

    private static void laws() {
        for (String text : new String[] {"r=1", " r > x ", "9999=0000", "not r=1", "notr", "x=1 and y=2or r<3", "((((((r=1))))))",
            "not not not not not not r=1", "not(not(not r=1))", "(r=1 or x=2)and(not y=3)"}) {
            MendBench b = new MendBench();
            Checks.feedText(b, text);
            if (text.equals("notr")) {
                Checks.due("law " + text, "IllegalArgumentException", b::law);
                Checks.due("fault " + text, 0, b::fault);
            } else {
                Checks.due("law " + text, true, b::law);
                Checks.due("fault " + text, -1, b::fault);
                Checks.due("bar by " + text, 0, b::bar);
            }
        }
    }

    private static void wrongLaws() {
        for (String marked : new String[] {"^", "r^", "r ^+ 1", "r=^", "r=^a", "^a=1", "r=^10000", "^00001=r", "r=1 ^r=2", "r=1 or ^",
            "r=1 and ^or", "not ^", "(r=1^", "(r=1 ^;", "r=1^)", "(^)", "((((((^(r=1)))))))", "not not not not not not ^not r=1",
            "not(not(not(^not r=1)))", "not(not(not(^(r=1))))", "(((not (not ^(not r=1)))))", "r=1 ^xor r=2", "^and r=1", "r=1^\u0000",
            "r=1 or((((((^(r=1)))))))", "r=^xy"}) {
            String text = marked.replace("^", "");
            MendBench b = new MendBench();
            Checks.feedText(b, text);
            Checks.due("law " + text, "IllegalArgumentException", b::law);
            Checks.due("fault " + text, marked.indexOf('^'), b::fault);
            Checks.due("no law of " + text, "IllegalStateException", b::bar);
        }
    }

    private static void whatWasStays() {
        MendBench b = Checks.withBody("end x");
        Checks.putSecond(b, "end y;end x");
        b.tries(3);
        Checks.feedText(b, "end z");
        Checks.due("wrong body", "IllegalArgumentException", () -> b.body(false));
        Checks.due("fault of wrong body", 4, b::fault);
        Checks.feedText(b, "bad");
        Checks.due("wrong second", "IllegalArgumentException", () -> b.body(true));
        Checks.due("fault of wrong second", 0, b::fault);
        Checks.due("the body stays", 5, () -> b.ends(5, 0, false));
        Checks.due("the second stays", 9, () -> b.ends(5, 9, true));
        Checks.due("what was tried stays", 3, () -> b.count(5));
        Checks.putSecond(b, "end 1");
        Checks.due("fault of a right text", -1, b::fault);
        Checks.due("a second changes nothing tried", 3, () -> b.count(5));
        Checks.due("the tape of none", "IllegalArgumentException", () -> b.body(false));
        Checks.due("fault of none", 0, b::fault);
        Checks.due("body again", 5, () -> b.ends(5, 0, false));
    }
}
