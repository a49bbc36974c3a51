/** The edges of what the document says of texts and of the TAPE, a sentence each: promises 1 to 6, BODY and LAW in Terms. */
public final class TextEdgesTest {
    private static final String TEN = "end 1;end 2;end 3;end 4;end 5;end 6;end 7;end 8;end 9;end 10";

    public static void main(String[] args) {
        newObject();
        feedUpTo400();
        feedHighestFirst();
        endOfTape();
        tapeIsUsedUp();
        linesOneToTen();
        lineKinds();
        variables();
        sums();
        tests();
        numbersOfBody();
        counts();
        words();
        blanks();
        moreMustCome();
        fullTape();
        cutOff();
        anyByte();
        lawAtoms();
        lawWords();
        lawDepth();
        longLaw();
        faultOfLatest();
        bodyOrSecond();
        Checks.finish();
    }

    /** What stood behind the TAPE's end ahead of its being cut, by turns. */
    private static final char[] CUT = {0, 'a', 'd', '0', '7', ' ', ';', '+', ')'};

    /** '^' stands ahead of the first wrong byte of a BODY; without one it is right. */
    private static void body(String marked) {
        for (char cut : CUT) {
            body(marked, cut);
        }
    }

    private static void body(String marked, char cut) {
        String text = marked.replace("^", "");
        for (boolean second : new boolean[] {false, true}) {
            MendBench b = new MendBench();
            Checks.feedText(b, text, cut);
            int lines = text.split(";", -1).length;
            if (marked.contains("^")) {
                Checks.due("body '" + marked + "'", "IllegalArgumentException", () -> b.body(second));
            } else {
                Checks.due("body '" + marked + "'", lines, () -> b.body(second));
            }
            Checks.due("fault of '" + marked + "'", marked.indexOf('^'), b::fault);
            Checks.due("lines of '" + marked + "'", marked.contains("^") ? 0 : lines, () -> b.count(second ? 11 : 0));
            Checks.due("the other of '" + marked + "'", 0, () -> b.count(second ? 0 : 11));
        }
    }

    private static void law(String marked) {
        for (char cut : CUT) {
            law(marked, cut);
        }
    }

    private static void law(String marked, char cut) {
        String text = marked.replace("^", "");
        MendBench b = new MendBench();
        Checks.feedText(b, text, cut);
        if (marked.contains("^")) {
            Checks.due("law '" + marked + "'", "IllegalArgumentException", b::law);
            Checks.due("no law by '" + marked + "'", "IllegalStateException", b::bar);
        } else {
            Checks.due("law '" + marked + "'", true, b::law);
            Checks.due("a law by '" + marked + "'", 0, b::bar);
        }
        Checks.due("fault of '" + marked + "'", marked.indexOf('^'), b::fault);
    }

    private static void bodies(String... marked) {
        for (String text : marked) {
            body(text);
        }
    }

    private static void lawsOf(String... marked) {
        for (String text : marked) {
            law(text);
        }
    }

    private static void newObject() {
        Checks.of("MendBench(): No BODY, RUNS, LAW, SECOND");
        MendBench b = new MendBench();
        Checks.due("NONE", -1, () -> MendBench.NONE);
        Checks.due("no tape", false, () -> b.end(1));
        Checks.due("an empty tape", true, () -> b.end(0));
        Checks.due("no body", "IllegalStateException", () -> b.ends(0, 0, false));
        Checks.due("no second", "IllegalStateException", () -> b.ends(0, 0, true));
        Checks.due("no run", "IndexOutOfBoundsException", () -> b.look(0, 0));
        Checks.due("no law", "IllegalStateException", b::bar);
        Checks.due("no lines", 0, () -> b.count(0));
        Checks.due("no runs", 0, () -> b.count(1));
        Checks.due("no lines of a second", 0, () -> b.count(11));
        Checks.due("fault ahead of any text", -1, b::fault);
    }

    private static void feedUpTo400() {
        Checks.of("feed: NONE, and none come, if it would have more than 400");
        MendBench b = new MendBench();
        for (int i = 1; i < 20; i++) {
            int has = 20 * i;
            Checks.due("feed " + i, has, () -> b.feed(0, 0, 0, 0, 0));
        }
        Checks.due("to 381", true, () -> b.end(380));
        Checks.due("to 400 exactly", 400, () -> b.feed(0, 0, 0, 0, 0));
        Checks.due("to 420", -1, () -> b.feed(0, 0, 0, 0, 0));
        Checks.due("none came", false, () -> b.end(401));
        Checks.due("one is cut", true, () -> b.end(381));
        Checks.due("to 401", -1, () -> b.feed(0, 0, 0, 0, 0));
        Checks.due("none came to 381", false, () -> b.end(382));
        Checks.due("381 are there", true, () -> b.end(381));
        Checks.due("one more is cut", true, () -> b.end(380));
        Checks.due("to 400 again", 400, () -> b.feed(0, 0, 0, 0, 0));
        Checks.due("400 are there", true, () -> b.end(400));
    }

    private static void cutOff() {
        Checks.of("end: The TAPE has its first n bytes alone: what is cut off is in no word, NUMBER or blank");
        String text = "end 12 + ab      if set 123";
        String[] cuts = {"", "e", "en", "end", "end ", "end 1", "end 12", "end 12 ", "end 12 +", "end 12 + ", "end 12 + a"};
        int[] faults = {0, 0, 0, 3, 4, -1, -1, -1, 8, 9, -1};
        for (int i = 0; i < cuts.length; i++) {
            int k = i;
            MendBench b = new MendBench();
            Checks.feedText(b, text);
            Checks.due("cut to '" + cuts[i] + "'", true, () -> b.end(cuts[k].length()));
            Checks.due("body '" + cuts[i] + "'", faults[i] < 0 ? 1 : "IllegalArgumentException", () -> b.body(false));
            Checks.due("fault of '" + cuts[i] + "'", faults[i], b::fault);
        }
        MendBench b = new MendBench();
        Checks.feedText(b, "end 99");
        b.end(5);
        b.body(false);
        Checks.due("9 and no 99", 9, () -> b.ends(0, 0, false));
        Checks.feedText(b, "not r > 1234 or xx");
        Checks.due("to x", true, () -> b.end(17));
        Checks.due("x, and nothing behind it", "IllegalArgumentException", b::law);
        Checks.due("the law's end", 17, b::fault);
        Checks.feedText(b, "not r > 1234");
        Checks.due("to 12", true, () -> b.end(10));
        Checks.due("12", true, b::law);
        b.tries(1);
        Checks.due("END is 8 by the first MEND", 8, () -> b.aliveEnds(0, 0, 0));
        Checks.feedText(b, "r < 88");
        Checks.due("to 8", true, () -> b.end(5));
        Checks.due("below 8", true, b::law);
        Checks.due("8 is not, on each input", 64, () -> b.prove(0, false));
    }

    private static void feedHighestFirst() {
        Checks.of("feed: Twenty bytes come behind the TAPE, of each number the highest first");
        MendBench b = new MendBench();
        b.feed(0x656e6420, 0x31202020, 0x20202020, 0x20202020, 0x20202020);
        b.feed(0x2020202b, 0x20202020, 0x20202020, 0x20202020, 0x20202032);
        Checks.due("end 1 and blanks, behind it + and 2", 1, () -> b.body(false));
        Checks.due("1 + 2", 3, () -> b.ends(0, 0, false));
        MendBench low = new MendBench();
        low.feed(0x656e6420, 0x313b656e, 0x64203278, 0, 0);
        low.end(12);
        Checks.due("the last of a number is the last", "IllegalArgumentException", () -> low.body(false));
        Checks.due("it is the twelfth", 11, low::fault);
        MendBench high = new MendBench();
        high.feed(0x656e6420, 0x31e92020, 0, 0, 0);
        Checks.due("a byte above 127", "IllegalArgumentException", () -> high.body(false));
        Checks.due("its place", 5, high::fault);
        MendBench below = new MendBench();
        below.feed(Integer.MIN_VALUE, -1, 0, 0, 0);
        Checks.due("a number below 0 has bytes too", "IllegalArgumentException", () -> below.body(false));
        Checks.due("the first of them", 0, below::fault);
    }

    private static void endOfTape() {
        Checks.of("end: true; false, and nothing happens, if it has fewer, or n is below 0");
        MendBench b = new MendBench();
        b.feed(0x656e6420, 0x31202020, 0x20202020, 0x20202020, 0x20202032);
        Checks.due("end 21", false, () -> b.end(21));
        Checks.due("end of the greatest number", false, () -> b.end(Integer.MAX_VALUE));
        Checks.due("end -1", false, () -> b.end(-1));
        Checks.due("end of the least number", false, () -> b.end(Integer.MIN_VALUE));
        Checks.due("nothing happened: the 2 is there", "IllegalArgumentException", () -> b.body(false));
        Checks.due("at 19", 19, b::fault);
        b.feed(0x656e6420, 0x31202020, 0x20202020, 0x20202020, 0x20202032);
        Checks.due("end 20, all of it", true, () -> b.end(20));
        Checks.due("end 19", true, () -> b.end(19));
        Checks.due("20 are no more there", false, () -> b.end(20));
        Checks.due("the 2 is cut", 1, () -> b.body(false));
        Checks.due("end 0 of an empty tape", true, () -> b.end(0));
        b.feed(0x656e6420, 0x31202020, 0x20202020, 0x20202020, 0x20202032);
        Checks.due("end 0", true, () -> b.end(0));
        Checks.due("feed behind it", 20, () -> b.feed(0x656e6420, 0x34202020, 0x20202020, 0x20202020, 0x20202020));
        Checks.due("the first bytes alone are gone", 1, () -> b.body(false));
        Checks.due("end 4", 4, () -> b.ends(0, 0, false));
    }

    private static void tapeIsUsedUp() {
        Checks.of("body, law: Uses the TAPE up (also by a text that is refused)");
        for (String text : new String[] {"end 1", "r = 1", "wrong"}) {
            for (int reader = 0; reader < 3; reader++) {
                MendBench b = new MendBench();
                Checks.feedText(b, text);
                int kind = reader;
                boolean right = text.equals("end 1") && kind < 2 || text.equals("r = 1") && kind == 2;
                Object want = !right ? "IllegalArgumentException" : kind == 2 ? (Object) true : (Object) 1;
                Checks.due(text + " read by " + kind, want, () -> kind == 2 ? (Object) b.law() : (Object) b.body(kind == 1));
                Checks.due("the tape is empty", false, () -> b.end(1));
                Checks.due("twenty bytes are all", 20, () -> b.feed(0, 0, 0, 0, 0));
            }
        }
    }

    private static void linesOneToTen() {
        Checks.of("A BODY: at most 10 LINES, at least one; of an 11th LINE its first word is wrong");
        bodies("^", "   ^", "end 1", TEN, TEN + " ", TEN + ";^end 11", TEN + " ;  ^end 11", TEN + ";^set a = 1;end 12", TEN + ";^endx",
            TEN + ";^;", TEN + ";^", TEN + "; ^", TEN + " ^end 11", TEN + "+^", TEN + "+1^+", "end 1;^", "end 1; ^", "^;end 1", "end 1;^;end 2",
            "end 1; ^; end 2");
    }

    private static void lineKinds() {
        Checks.of("LINE: set V = SUM | skip COUNT if TEST | back COUNT if TEST | end SUM; a word that is none is wrong");
        bodies("set a = 1", "skip 1 if a < 1", "back 1 if a < 1", "end 1", "^a = 1", "^let a = 1", "^if a < 1", "^x", "^1", "^=",
            "set a ^1", "set a ^< 1", "set ^= 1", "skip 1 ^a < 1", "skip ^if a < 1", "back 2 ^back 1", "end ^= 1", "end ^if", "set a = ^set",
            "set a = 1 ^set b = 2", "set a = 1 ^, end a", "set^", "back^", "skip^", "end^");
    }

    private static void variables() {
        Checks.of("V: a, b, c, d");
        bodies("set a = 1", "set b = 1", "set c = 1", "set d = 1", "set ^e = 1", "set ^x = 1", "set ^y = 1", "set ^r = 1", "set ^aa = 1",
            "set ^1 = 1", "set ^A = 1", "set ^` = 1");
    }

    private static void sums() {
        Checks.of("SUM: ATOM [ OP ATOM ]; OP: + - * / %; ATOM: V, x, y, or a NUMBER");
        bodies("end a", "end b", "end c", "end d", "end x", "end y", "end 0", "end a + x", "end b - y", "end c * 1", "end d / a", "end x % b",
            "end ^e", "end ^r", "end ^z", "end a + ^e", "end a + ^+ b", "end ^+ a", "end ^- 1", "end a - ^- 1", "end a + b ^+ c",
            "end a + b ^c", "end a ^b", "end a ^< b", "end a ^= b", "end a ^> b", "end a ^& b", "end ^(a)", "end a *^* b",
            "set a = 1 + 2 ^% 3");
    }

    private static void tests() {
        Checks.of("TEST: ATOM SIGN ATOM; SIGN: < > =");
        bodies("skip 1 if a < x", "skip 1 if y > 9", "back 1 if 0 = d", "skip 1 if ^e < 1", "skip 1 if a ^+ 1", "skip 1 if a <^= 1",
            "skip 1 if a =^= 1", "skip 1 if a < 1 ^< 2", "skip 1 if a < 1 ^+ 2", "skip 1 if a ^! 1", "skip 1 if a < ^r", "back 1 if ^not a < b",
            "skip 1 if a < 1 ^and b < 1");
    }

    private static void numbersOfBody() {
        Checks.of("a NUMBER of 1 or 2 digits; of more digits it is wrong at its begin");
        bodies("end 0", "end 9", "end 00", "end 09", "end 10", "end 99", "end ^000", "end ^100", "end ^999", "end ^1000000000000000000000",
            "end 1 + 99", "end 1 + ^100", "end 99 + ^099", "skip 1 if 99 < 99", "skip 1 if ^100 < 99", "skip 1 if 99 < ^100", "end 1 ^2",
            "end 12 ^3", "end 1^.5", "end a^1", "end 1^a");
        Checks.of("a NUMBER is no sign, be it that sign's byte");
        bodies("end a ^43 b", "end a ^45 b", "end a ^42 b", "end a ^47 b", "end a ^37 b", "skip 1 if a ^60 b", "skip 1 if a ^61 b", "back 1 if a ^62 b",
            "set a ^61 b", "end a ^59 end b", "set ^97 = 1");
        lawsOf("r ^60 x", "r ^61 x", "r ^62 x", "40 ^r = x", "(r = x ^41");
    }

    private static void counts() {
        Checks.of("COUNT: 1 to 9, one digit; out of its bounds it is wrong at its begin");
        for (String word : new String[] {"skip ", "back "}) {
            for (int n = 1; n <= 9; n++) {
                body(word + n + " if a < b");
            }
            bodies(word + "^0 if a < b", word + "^10 if a < b", word + "^01 if a < b", word + "^00 if a < b", word + "^99 if a < b",
                word + "^x if a < b", word + "^-1 if a < b", word + "^if a < b", word + "1 ^1 if a < b");
        }
    }

    private static void words() {
        Checks.of("Words are as long as a to z go on");
        bodies("skip 1if a<b", "skip1if 1<a", "set a=b", "set a=1;set b=2", "^seta=1", "^enda", "skip 1 ^ifa<b", "^backa",
            "^sets a = 1", "^se t a = 1", "^Set a = 1", "^sEt a = 1", "end a^Z", "end a^`", "end a^{", "end a^@", "end a^[",
            "end ^az", "end ^xy", "end x ^y", "back1if x=y", "end1", "end99;end0", "^zend 1", "^aend 1");
        bodies("^se", "^bac", "^ski", "^en", "end 1;^en", "set a = 1;^ends");
    }

    private static void blanks() {
        Checks.of("between all there may be blanks (32), also ahead and behind");
        bodies("   set   a   =   1   +   2   ;   end   a   ", "set a=1+2;end a", "skip1if a<b;back2if x=y", "end 1^\t",
            "end^\t1", "^\nend 1", "end 1^\r", "end^\u00a01", "end 1;^\u0000", "^\u0000end 1", "end 1^\u0000", "^e nd 1",
            "end 1 ^0", "skip 1 ^i f a < b", "end ^\u001f1", "end ^!1");
    }

    private static void moreMustCome() {
        Checks.of("The first wrong byte: the text's length, if more must come");
        bodies("set a = 1 +^", "set a = 1 +  ^", "set^", "set ^", "set a^", "set a =^", "skip^", "skip 1^", "skip 1 if^", "skip 1 if a^",
            "skip 1 if a <^", "back 1 if a <   ^", "end^", "end 1;^", "end 1 ;  ^", "end 1 %^");
        lawsOf("^", "  ^", "r^", "r =^", "r = ^", "not^", "(^", "(r = 1^", "(r = 1 ^", "r = 1 and^", "r = 1 or ^", "r = 1 and not^",
            "not (^", "r = 1 or (x = 1^");
    }

    private static void fullTape() {
        Checks.of("a text may fill the TAPE's 400 bytes");
        body(" ".repeat(395) + "end 1");
        body("end 1" + " ".repeat(395));
        body(" ".repeat(394) + "end 12");
        body(" ".repeat(395) + "^endab");
        body(" ".repeat(397) + "end^");
        body("end" + " ".repeat(397) + "^");
        body(" ".repeat(396) + "end1");
        body(" ".repeat(394) + "end 1 ");
        body(" ".repeat(394) + "end 1;^");
        body(" ".repeat(393) + "end ^100");
        body(" ".repeat(390) + "^" + "z".repeat(10));
        body("end " + "^" + "1".repeat(396));
        law(" ".repeat(397) + "r=1");
        law(" ".repeat(396) + "r=12");
        law(" ".repeat(394) + "r=9999");
        law(" ".repeat(393) + "r=^10000");
        law("r=1" + " ".repeat(397));
        law(" ".repeat(396) + "(r=1^");
        law(" ".repeat(395) + "(r=1)");
        law(" ".repeat(398) + "^no");
        Checks.of("a word at the TAPE's last byte is one of those that can stand there, or none");
        body(" ".repeat(397) + "^foo");
        body(" ".repeat(397) + "^enc");
        body(" ".repeat(397) + "^ene");
        body(" ".repeat(396) + "^skiq");
        body(" ".repeat(396) + "skip^");
        body("end 1;" + " ".repeat(391) + "^eod");
        body("skip 1" + " ".repeat(392) + "^of");
        body("skip 1" + " ".repeat(392) + "^ig");
        body("skip 1" + " ".repeat(392) + "if^");
        body("end" + " ".repeat(396) + "^e");
        body("end" + " ".repeat(396) + "d");
        law(" ".repeat(397) + "^nor");
        law(" ".repeat(397) + "not^");
        law("r=1" + " ".repeat(394) + "^ant");
        law("r=1" + " ".repeat(394) + "and^");
        law("r=1" + " ".repeat(395) + "^on");
        law("r=1" + " ".repeat(395) + "or^");
        law("r=" + " ".repeat(397) + "x");
        law("r=" + " ".repeat(397) + "^a");
    }

    private static void anyByte() {
        Checks.of("The first wrong byte: the begin of the first thing that cannot stand there, of any byte");
        for (int c = 0; c < 256; c++) {
            if (c == ' ' || c == ';') {
                continue;
            }
            int one = c;
            MendBench b = new MendBench();
            b.feed(0x656e6420, 0x61200000 | c << 8, 0, 0, 0);
            b.end(7);
            boolean sum = "+-*/%".indexOf(c) >= 0;
            Checks.due("end a and byte " + one, "IllegalArgumentException", () -> b.body(false));
            Checks.due("fault of byte " + one, sum ? 7 : 6, b::fault);
            MendBench ahead = new MendBench();
            ahead.feed(c << 24 | 0x20656e, 0x64203120, 0x20202020, 0x20202020, 0x20202020);
            Checks.due("byte " + one + " and end 1", "IllegalArgumentException", () -> ahead.body(true));
            Checks.due("fault of byte " + one + " ahead", 0, ahead::fault);
        }
    }

    private static void lawAtoms() {
        Checks.of("LAWATOM: r, x, y, or a NUMBER of 1 to 4 digits; SIGN: < > =");
        lawsOf("r=0", "r=9", "r=00", "r=999", "r=0000", "r=9999", "r=^00000", "r=^10000", "^10000=r", "9999=r", "r<x", "x>y", "y=r", "1=2",
            "^a=1", "r=^b", "^d<1", "^z=1", "^rx=1", "r ^x", "r ^+ 1", "r <^= 1", "r = 1 ^= 2", "r = 1 ^+ 1", "^-1 = r", "r ^% 2 = 0",
            "r = 1^;", "r ^! 1", "^= 1", "^if r = 1");
    }

    private static void lawWords() {
        Checks.of("LAW: COND: ALL { or ALL }; ALL: ITEM { and ITEM }; ITEM: not ITEM | ( COND ) | LAWATOM SIGN LAWATOM");
        lawsOf("r=1or x=2and y=3", "r=1 or r=2 or r=3", "r=1 and r=2 and r=3", "(r=1)", "not(r=1)", "not r=1", "(r=1 or x=2)and y=3",
            "(r=1)or(x=2)", "(not r=1)", "^or r=1", "^and r=1", "r=1 or ^or x=1", "r=1 and ^and x=1", "r=1 or ^and x=1", "r=1 ^not x=1",
            "r=1 ^x=1", "r=1 ^(x=1)", "(r=1) ^(x=1)", "(r=1) ^r=1", "^)", "(^)", "r=1^)", "(r=1)^)", "((r=1)^", "not ^and r=1", "not ^)",
            "^notr=1", "^nor r=1", "r=1 ^ord x=1", "r=1 ^andx=1", "r=1 ^OR x=1", "(^or", "(r^)", "(r=^)", "(r=1 or ^)", "(r=1 ^= 2)",
            "(r=1^]", "r=1 or not ^or x=1", "not not r=1", "((r=1)or(x=1))and(y=1)");
    }

    private static void lawDepth() {
        Checks.of("( and not within one another at most 6 deep");
        for (int brackets = 0; brackets <= 6; brackets++) {
            String open = "(".repeat(brackets) + "not ".repeat(6 - brackets);
            String close = ")".repeat(brackets);
            law(open + "r=1" + close);
            law(open + "^not r=1" + close);
            law(open + "^(r=1)" + close);
            law("x=1 or y=1 and " + open + "r=1" + close + " and x=1 or not r=1");
            String mixed = "not ".repeat(6 - brackets) + "(".repeat(brackets);
            law(mixed + "r=1" + close);
            law(mixed + "^(not r=1)" + close);
            law(mixed + (brackets == 0 ? "r=1" : "r=1 or ^not x=1") + close);
        }
        law("((((((r=1))))))and((((((r=1))))))or not not not not not not r=1");
        law("(((not not not r=1)))and(((not not not ^(r=1))))");
        law("^" + ")".repeat(7));
        law("((((((^" + "(".repeat(390));
        law("not ".repeat(6) + "^" + "not ".repeat(90));
    }

    private static void longLaw() {
        Checks.of("LAW: as many ALL and ITEMS as the TAPE holds");
        String ors = "0=1" + "or0=1".repeat(78);
        String ands = "0=0" + "and0=0".repeat(65);
        MendBench b = Checks.withBody("end 5");
        b.tries(1);
        b.box(0);
        Checks.putLaw(b, ors);
        Checks.due("none of many", 1, () -> b.prove(0, false));
        Checks.putLaw(b, ors + "or0=0");
        Checks.due("the last of many", 0, () -> b.prove(0, false));
        Checks.putLaw(b, ands);
        Checks.due("each of many", 0, () -> b.prove(0, false));
        Checks.putLaw(b, ands + "and1=0");
        Checks.due("but for the last of many", 1, () -> b.prove(0, false));
    }

    private static void faultOfLatest() {
        Checks.of("fault: The first wrong byte of the latest text that was read; NONE without one, and ahead of any");
        MendBench b = new MendBench();
        Checks.due("ahead of any", -1, b::fault);
        b.feed(0x78202020, 0, 0, 0, 0);
        Checks.due("a tape alone is not read", -1, b::fault);
        Checks.due("wrong body", "IllegalArgumentException", () -> b.body(false));
        Checks.due("of it", 0, b::fault);
        b.feed(0, 0, 0, 0, 0);
        b.end(0);
        Checks.due("still of it", 0, b::fault);
        Checks.feedText(b, "r = a");
        Checks.due("wrong law", "IllegalArgumentException", b::law);
        Checks.due("of the law", 4, b::fault);
        Checks.feedText(b, "end x ^ 2");
        Checks.due("wrong second", "IllegalArgumentException", () -> b.body(true));
        Checks.due("of the second", 6, b::fault);
        Checks.feedText(b, "r = 1");
        Checks.due("right law", true, b::law);
        Checks.due("without one", -1, b::fault);
        Checks.feedText(b, "end");
        Checks.due("more must come", "IllegalArgumentException", () -> b.body(true));
        Checks.due("the length", 3, b::fault);
        Checks.feedText(b, "end 1");
        Checks.due("right second", 1, () -> b.body(true));
        Checks.due("without one again", -1, b::fault);
        Checks.due("a refused run", "IllegalArgumentException", () -> b.run(16, 0, 0));
        Checks.due("is no text", -1, b::fault);
    }

    private static void bodyOrSecond() {
        Checks.of("body: the BODY (second false), or the SECOND: how many LINES; the text is wrong: what was stays");
        MendBench b = new MendBench();
        Checks.feedText(b, TEN);
        Checks.due("ten lines", 10, () -> b.body(false));
        Checks.due("no second", 0, () -> b.count(11));
        Checks.feedText(b, "end 7;end 8");
        Checks.due("two lines", 2, () -> b.body(true));
        Checks.due("the body has ten", 10, () -> b.count(0));
        Checks.due("of the body", 1, () -> b.ends(0, 0, false));
        Checks.due("of the second", 7, () -> b.ends(0, 0, true));
        for (String text : new String[] {"end 3;set", "end 3;" + TEN, ""}) {
            Checks.feedText(b, text);
            Checks.due("wrong body", "IllegalArgumentException", () -> b.body(false));
            Checks.feedText(b, text);
            Checks.due("wrong second", "IllegalArgumentException", () -> b.body(true));
            Checks.due("ten stay", 10, () -> b.count(0));
            Checks.due("two stay", 2, () -> b.count(11));
            Checks.due("the body stays", 1, () -> b.ends(0, 0, false));
            Checks.due("the second stays", 7, () -> b.ends(0, 0, true));
        }
        Checks.feedText(b, "end 4");
        Checks.due("another body", 1, () -> b.body(false));
        Checks.due("it is there", 4, () -> b.ends(0, 0, false));
        Checks.due("the old one is gone", 1, () -> b.count(0));
        Checks.feedText(b, "end 9");
        Checks.due("another second", 1, () -> b.body(true));
        Checks.due("it is there too", 9, () -> b.ends(0, 0, true));
        lawStays();
    }

    private static void lawStays() {
        Checks.of("law: the text is wrong: what was stays");
        MendBench b = Checks.withBody("end 5");
        b.tries(1);
        b.box(0);
        Checks.putLaw(b, "r = 4");
        for (String text : new String[] {"r = 5 or", "r = 5 x", "", "r = 5 and x = 0 or r"}) {
            Checks.feedText(b, text);
            Checks.due("wrong law", "IllegalArgumentException", b::law);
            Checks.due("r = 4 holds still", 0, () -> b.prove(0, false));
        }
        Checks.putLaw(b, "r = 5");
        Checks.due("another law", 1, () -> b.prove(0, false));
        Checks.putLaw(b, "r = 4 or r = 6");
        Checks.due("longer", 0, () -> b.prove(0, false));
        Checks.putLaw(b, "r = 4");
        Checks.due("shorter", 0, () -> b.prove(0, false));
    }
}
