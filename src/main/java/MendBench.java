import java.util.NoSuchElementException;

/** A bench on which faults of small programs are sought and mended. */
public final class MendBench {
    public static final int NONE = -1;

    private static final int MOST_BYTES = 400;
    private static final int FED_BYTES = 20;
    private static final int MOST_LINES = 10;
    private static final int MOST_STEPS = 100;
    private static final int MOST_NUMBER = 999999;
    private static final int MOST_RUNS = 12;
    private static final int MOST_INPUT = 15;
    private static final int MOST_KEPT = 30;
    private static final int MOST_ROWS = 8;
    private static final int MOST_MADE = 6;
    private static final int MOST_TRIES = 400;
    private static final int MOST_FREE = 20;
    private static final int MOST_DEPTH = 6;
    private static final int FIRST_BOX = 7;
    private static final int VARIABLES = 4;
    private static final int NAMES = 6;
    private static final int FORMS = 6;

    /** A LINE has 28 MENDS at the most: 13 of names, 4 of its sign, OUT, MOVE and 9 grafts. */
    private static final int MOST_MENDS = 300;
    /** Inputs of the largest BOX, each at 16 times x and y. */
    private static final int INPUTS = 256;
    /** Every set of RUNS, a bit a RUN. */
    private static final int RUN_SETS = 4096;
    /** More MENDS than any heap can need. */
    private static final int TOO_MANY = 100;
    /** A largest group of ends alike is always below this. */
    private static final int FAR = 1000;

    private static final int DIVIDED = 2000001;
    private static final int BEYOND = 2000002;
    private static final int OVER = 2000003;

    private static final int SET = 0;
    private static final int SKIP = 1;
    private static final int BACK = 2;
    private static final int END = 3;
    private static final int NOTHING = 4;

    private static final int ATOM_X = 4;
    private static final int ATOM_Y = 5;
    private static final int LEAST_NUMBER = 10;
    private static final int MOST_NUMBER_ATOM = 109;

    private static final int NO_SIGN = 0;
    private static final int PLUS = 1;
    private static final int MINUS = 2;
    private static final int TIMES = 3;
    private static final int DIVIDE = 4;
    private static final int REST = 5;
    private static final int LESS = 6;
    private static final int MORE = 7;
    private static final int SAME = 8;

    private static final int NAME_FORM = 0;
    private static final int SIGN_FORM = 1;
    private static final int BOUND_FORM = 2;
    private static final int OUT_FORM = 3;
    private static final int MOVE_FORM = 4;
    private static final int GRAFT_FORM = 5;

    private static final int MISSED = 0;
    private static final int FOUND = 1;
    private static final int IN_DOUBT = 2;
    private static final int HARMLESS = 3;

    private static final int AT_END = 0;
    private static final int WORD = 1;
    private static final int NUMBER = 2;
    private static final int MARK = 3;

    private static final int LAW_R = 0;
    private static final int LAW_X = 1;
    private static final int LAW_Y = 2;
    private static final int LAW_AND = -1;
    private static final int LAW_OR = -2;
    private static final int LAW_NOT = -3;

    /** A LINE that does nothing, as packed() would give it. */
    private static final int NOTHING_LINE = NOTHING;

    private final Tape tape = new Tape();
    private int wrongByte = NONE;
    private final BodyReader bodyReader = new BodyReader();
    private final LawReader lawReader = new LawReader();
    private final State now = new State();
    private final State kept = new State();
    private boolean imageKept;
    private final Walk walk = new Walk();
    private final Survey survey = new Survey();
    private final Mends mends = new Mends();
    private final Mends faultMends = new Mends();
    private final Program shaped = new Program();
    private final Program faulty = new Program();
    private final Program[] keptShapes = new Program[MOST_KEPT];
    private final int[] keptEnds = new int[MOST_KEPT];
    private final int[] runEnds = new int[MOST_RUNS];
    private final int[] boxEnds = new int[INPUTS];
    private final int[] gains = new int[MOST_MENDS];
    private final byte[] needs = new byte[RUN_SETS];

    public MendBench() {
        for (int i = 0; i < keptShapes.length; i++) {
            keptShapes[i] = new Program();
        }
    }

    // ---- the TAPE and the texts

    public int feed(int a, int b, int c, int d, int e) {
        if (tape.size + FED_BYTES > MOST_BYTES) {
            return NONE;
        }
        tape.add(a);
        tape.add(b);
        tape.add(c);
        tape.add(d);
        tape.add(e);
        return tape.size;
    }

    public boolean end(int n) {
        if (n < 0 || n > tape.size) {
            return false;
        }
        tape.size = n;
        return true;
    }

    public int body(boolean second) throws IllegalArgumentException {
        wrongByte = bodyReader.wrongIn(tape);
        tape.size = 0;
        if (wrongByte != NONE) {
            throw new IllegalArgumentException("the text is no BODY");
        }
        if (second) {
            now.second.copyOf(bodyReader.read);
        } else {
            now.body.copyOf(bodyReader.read);
            now.madeSize = 0;
            beginAnew();
        }
        return bodyReader.read.size;
    }

    public boolean law() throws IllegalArgumentException {
        wrongByte = lawReader.wrongIn(tape);
        tape.size = 0;
        if (wrongByte != NONE) {
            throw new IllegalArgumentException("the text is no LAW");
        }
        now.law.copyOf(lawReader.read);
        return true;
    }

    public int fault() {
        return wrongByte;
    }

    /** The BODY is another: its MENDS are other ones, and nothing is tried. */
    private void beginAnew() {
        now.tries.forget();
        mends.of(now.body);
    }

    private boolean hasBody() {
        return now.body.size > 0;
    }

    // ---- RUNS

    public int run(int x, int y, int due) throws IllegalArgumentException, UnsupportedOperationException {
        if (x < 0 || x > MOST_INPUT || y < 0 || y > MOST_INPUT) {
            throw new IllegalArgumentException("no such input");
        }
        if (due < -MOST_NUMBER || due > MOST_NUMBER) {
            throw new IllegalArgumentException("no such number");
        }
        if (now.runs.size >= MOST_RUNS) {
            throw new UnsupportedOperationException("there are 12 RUNS");
        }
        now.runs.add(x, y, due);
        putOutPleased(x, y, due);
        return now.runs.size - 1;
    }

    private void putOutPleased(int x, int y, int due) {
        Tries tries = now.tries;
        int gone = 0;
        int stay = 0;
        for (int i = 0; i < tries.keptSize && i < tries.kept.length; i++) {
            mends.shape(now.body, tries.kept[i], shaped);
            if (walk.through(shaped, x, y) == due) {
                tries.kept[stay] = tries.kept[i];
                stay++;
            } else {
                gone++;
            }
        }
        tries.keptSize = stay;
        tries.pleased += gone;
    }

    public int ends(int x, int y, boolean second) throws IllegalStateException {
        Program program = second ? now.second : now.body;
        if (program.size == 0) {
            throw new IllegalStateException("there is no such BODY");
        }
        return walk.through(program, x, y);
    }

    public int look(int run, int what) throws IndexOutOfBoundsException, IllegalStateException, NoSuchElementException {
        Runs runs = now.runs;
        if (run < 0 || run >= runs.size || run >= MOST_RUNS) {
            throw new IndexOutOfBoundsException("no such RUN");
        }
        if (!hasBody()) {
            throw new IllegalStateException("there is no BODY");
        }
        int end = walk.through(now.body, runs.x[run], runs.y[run]);
        switch (what) {
            case 0: return runs.x[run];
            case 1: return runs.y[run];
            case 2: return runs.due[run];
            case 3: return end;
            case 4: return end == runs.due[run] ? 1 : 0;
            case 5: return walk.steps;
            case 6: return walk.slice;
            default: throw new NoSuchElementException("no such what");
        }
    }

    // ---- WHERE

    public int done(int line, boolean wrong) throws IndexOutOfBoundsException {
        if (line < 0 || line >= now.body.size) {
            throw new IndexOutOfBoundsException("no such LINE");
        }
        survey.of(now.body, now.runs, walk);
        return survey.doneIn(line, wrong ? survey.wrong : survey.right);
    }

    public int where(int what) throws IllegalStateException, NoSuchElementException {
        if (!hasBody()) {
            throw new IllegalStateException("there is no BODY");
        }
        if (what < 0 || what > 2) {
            throw new NoSuchElementException("no such what");
        }
        survey.of(now.body, now.runs, walk);
        if (survey.wrong == 0) {
            return 0;
        }
        if (what == 0) {
            return blameBits();
        }
        if (what == 1) {
            return freeBits();
        }
        return blameBits() & freeBits() & survey.sharedSlice();
    }

    private int blameBits() {
        int most = NONE;
        int fewest = 0;
        int bits = 0;
        for (int at = 0; at < now.body.size; at++) {
            int inWrong = survey.doneIn(at, survey.wrong);
            int inRight = survey.doneIn(at, survey.right);
            if (inWrong > most || (inWrong == most && inRight < fewest)) {
                most = inWrong;
                fewest = inRight;
                bits = 0;
            }
            if (inWrong == most && inRight == fewest) {
                bits |= 1 << at;
            }
        }
        return bits;
    }

    private int freeBits() {
        int bits = 0;
        for (int at = 0; at < now.body.size; at++) {
            boolean free = kindOf(now.body.lineAt(at)) == SET;
            for (int i = 0; i < now.runs.size && free; i++) {
                free = (survey.wrong >> i & 1) == 0 || canFree(at, i);
            }
            bits |= free ? 1 << at : 0;
        }
        return bits;
    }

    /** Is there a value for a set LINE that makes a WRONG RUN RIGHT? A LINE that is not done there changes nothing. */
    private boolean canFree(int at, int i) {
        Runs runs = now.runs;
        if (i < 0 || i >= MOST_RUNS || (survey.seen[i] >> at & 1) == 0) {
            return false;
        }
        boolean found = false;
        walk.freeLine = at;
        for (int value = -MOST_FREE; value <= MOST_FREE && !found; value++) {
            walk.freeValue = value;
            found = walk.through(now.body, runs.x[i], runs.y[i]) == runs.due[i];
        }
        walk.freeLine = NONE;
        return found;
    }

    // ---- MENDS

    public int mend(int mend, int what) throws IndexOutOfBoundsException, NoSuchElementException {
        if (mend < 0 || mend >= mends.size || mend >= MOST_MENDS) {
            throw new IndexOutOfBoundsException("no such MEND");
        }
        if (what < 0 || what > 3) {
            throw new NoSuchElementException("no such what");
        }
        if (what == 0) {
            return mends.form[mend];
        }
        if (what == 1) {
            return mends.place[mend];
        }
        int before = rightBits(now.body);
        mends.shape(now.body, mend, shaped);
        int after = rightBits(shaped);
        return Integer.bitCount(what == 2 ? after & ~before : before & ~after);
    }

    public int line(int mend, int line, int what) throws IndexOutOfBoundsException, NoSuchElementException {
        if (mend != NONE && (mend < 0 || mend >= mends.size)) {
            throw new IndexOutOfBoundsException("no such MEND");
        }
        if (line < 0 || line >= now.body.size) {
            throw new IndexOutOfBoundsException("no such LINE");
        }
        mends.shape(now.body, mend, shaped);
        int told = shaped.lineAt(line);
        switch (what) {
            case 0: return kindOf(told);
            case 1: return madeOf(told);
            case 2: return firstOf(told);
            case 3: return signOf(told);
            case 4: return secondOf(told);
            case 5: return countOf(told);
            default: throw new NoSuchElementException("no such what");
        }
    }

    public int tries(int n) throws IllegalArgumentException, IllegalStateException {
        if (n < 0 || n > MOST_TRIES) {
            throw new IllegalArgumentException("not 0 to 400");
        }
        if (!hasBody()) {
            throw new IllegalStateException("there is no BODY");
        }
        Tries tries = now.tries;
        for (int i = 0; i < n; i++) {
            if (!mends.shape(now.body, tries.tried, shaped)) {
                return i;
            }
            tries.add(firstWrong(shaped));
        }
        return n;
    }

    public int alive(int i, int what) throws IndexOutOfBoundsException, NoSuchElementException {
        int number = keptNumber(i);
        if (number == NONE) {
            throw new IndexOutOfBoundsException("no such kept ALIVE one");
        }
        if (what < 0 || what > 2) {
            throw new NoSuchElementException("no such what");
        }
        if (what == 0) {
            return number;
        }
        mends.part(number);
        return what == 1 ? mends.one : mends.two;
    }

    public int aliveEnds(int i, int x, int y) throws IndexOutOfBoundsException {
        int number = keptNumber(i);
        if (number == NONE) {
            throw new IndexOutOfBoundsException("no such kept ALIVE one");
        }
        mends.shape(now.body, number, shaped);
        return walk.through(shaped, x, y);
    }

    /** The number of the kept ALIVE one i; NONE, if there is no such one. */
    private int keptNumber(int i) {
        Tries tries = now.tries;
        return i >= 0 && i < tries.keptSize && i < tries.kept.length ? tries.kept[i] : NONE;
    }

    /** The RUNS that are RIGHT by a program, as bits. */
    private int rightBits(Program program) {
        Runs runs = now.runs;
        int bits = 0;
        for (int i = 0; i < runs.size && i < MOST_RUNS; i++) {
            if (walk.through(program, runs.x[i], runs.y[i]) == runs.due[i]) {
                bits |= 1 << i;
            }
        }
        return bits;
    }

    /** The first RUN that is not RIGHT by a program; NONE. */
    private int firstWrong(Program program) {
        Runs runs = now.runs;
        for (int i = 0; i < runs.size && i < MOST_RUNS; i++) {
            if (walk.through(program, runs.x[i], runs.y[i]) != runs.due[i]) {
                return i;
            }
        }
        return NONE;
    }

    // ---- ORDER

    public int teach(int form) throws IllegalArgumentException {
        if (form < 0 || form >= FORMS) {
            throw new IllegalArgumentException("no such form");
        }
        now.taught[form]++;
        return now.taught[form];
    }

    public int first(boolean order) throws IllegalStateException {
        if (!hasBody()) {
            throw new IllegalStateException("there is no BODY");
        }
        int used = 0;
        int tried = 0;
        for (int rank = 0; rank < FORMS; rank++) {
            int form = order ? mostTaught(used) : NONE;
            used |= order ? 1 << form : 0;
            for (int i = 0; i < mends.size && i < MOST_MENDS; i++) {
                if (!order || mends.form[i] == form) {
                    tried++;
                    mends.shape(now.body, i, shaped);
                    if (firstWrong(shaped) == NONE) {
                        return tried;
                    }
                }
            }
            if (!order) {
                return NONE;
            }
        }
        return NONE;
    }

    /** The form that was taught most of those that are not used; of several the lesser one. */
    private int mostTaught(int used) {
        int best = 0;
        int most = NONE;
        for (int form = 0; form < FORMS; form++) {
            if ((used >> form & 1) == 0 && now.taught[form] > most) {
                best = form;
                most = now.taught[form];
            }
        }
        return best;
    }

    // ---- the BOX

    public void box(int n) throws IllegalArgumentException {
        if (n < 0 || n > MOST_INPUT) {
            throw new IllegalArgumentException("no such BOX");
        }
        now.box = n;
    }

    public int input(boolean asked) {
        for (int i = 0; i < now.tries.keptSize && i < keptShapes.length; i++) {
            mends.shape(now.body, keptNumber(i), keptShapes[i]);
        }
        if (now.tries.keptSize < 2) {
            return NONE;
        }
        return asked ? askedInput() : nearInput();
    }

    private int nearInput() {
        int best = NONE;
        int least = FAR;
        for (int x = 0; x <= now.box; x++) {
            for (int y = 0; y <= now.box; y++) {
                int steps = now.runs.stepsTo(x, y);
                if (steps < least && endApart(x, y)) {
                    best = 16 * x + y;
                    least = steps;
                }
            }
        }
        return best;
    }

    private boolean endApart(int x, int y) {
        int end = walk.through(keptShapes[0], x, y);
        for (int i = 1; i < now.tries.keptSize && i < keptShapes.length; i++) {
            if (walk.through(keptShapes[i], x, y) != end) {
                return true;
            }
        }
        return false;
    }

    private int askedInput() {
        int best = NONE;
        int fewest = FAR;
        int least = FAR;
        for (int x = 0; x <= now.box; x++) {
            for (int y = 0; y <= now.box; y++) {
                int steps = now.runs.stepsTo(x, y);
                int alike = mostAlike(x, y);
                if (alike < fewest || (alike == fewest && steps < least)) {
                    best = 16 * x + y;
                    fewest = alike;
                    least = steps;
                }
            }
        }
        return best;
    }

    /** The greatest number of kept ALIVE ones that end alike on an input. */
    private int mostAlike(int x, int y) {
        int most = 0;
        for (int i = 0; i < now.tries.keptSize && i < keptEnds.length; i++) {
            keptEnds[i] = walk.through(keptShapes[i], x, y);
            int alike = 0;
            for (int j = 0; j <= i; j++) {
                alike += keptEnds[j] == keptEnds[i] ? 1 : 0;
            }
            most = Math.max(most, alike);
        }
        return most;
    }

    // ---- the LAW

    public int prove(int i, boolean first) throws IndexOutOfBoundsException, IllegalStateException {
        int number = keptNumber(i);
        if (number == NONE) {
            throw new IndexOutOfBoundsException("no such kept ALIVE one");
        }
        if (now.law.size == 0) {
            throw new IllegalStateException("there is no LAW");
        }
        mends.shape(now.body, number, shaped);
        return first ? firstBreak(shaped) : breaks(shaped);
    }

    private int breaks(Program program) {
        int broken = 0;
        for (int x = 0; x <= now.box; x++) {
            for (int y = 0; y <= now.box; y++) {
                broken += breaksOn(program, x, y) ? 1 : 0;
            }
        }
        return broken;
    }

    private int firstBreak(Program program) {
        for (int x = 0; x <= now.box; x++) {
            for (int y = 0; y <= now.box; y++) {
                if (breaksOn(program, x, y)) {
                    return 16 * x + y;
                }
            }
        }
        return NONE;
    }

    private boolean breaksOn(Program program, int x, int y) {
        int end = walk.through(program, x, y);
        return !isNumber(end) || !now.law.holds(end, x, y);
    }

    public int bar() throws IllegalStateException {
        if (now.law.size == 0) {
            throw new IllegalStateException("there is no LAW");
        }
        Tries tries = now.tries;
        int gone = 0;
        int stay = 0;
        for (int i = 0; i < tries.keptSize && i < tries.kept.length; i++) {
            mends.shape(now.body, tries.kept[i], shaped);
            if (firstBreak(shaped) == NONE) {
                tries.kept[stay] = tries.kept[i];
                stay++;
            } else {
                gone++;
            }
        }
        tries.keptSize = stay;
        tries.barred += gone;
        return gone;
    }

    // ---- the SECOND

    public int otherwise(int i) throws IndexOutOfBoundsException, IllegalStateException {
        int number = keptNumber(i);
        if (i != NONE && number == NONE) {
            throw new IndexOutOfBoundsException("no such kept ALIVE one");
        }
        if (!hasBody() || now.second.size == 0) {
            throw new IllegalStateException("there is no BODY, or no SECOND");
        }
        mends.shape(now.body, number, shaped);
        int unlike = 0;
        for (int x = 0; x <= now.box; x++) {
            for (int y = 0; y <= now.box; y++) {
                unlike += walk.through(shaped, x, y) != walk.through(now.second, x, y) ? 1 : 0;
            }
        }
        return unlike;
    }

    // ---- HEAPS

    public int heaps() throws IllegalStateException {
        if (!hasBody()) {
            throw new IllegalStateException("there is no BODY");
        }
        int right = rightBits(now.body);
        int wrong = ((1 << now.runs.size) - 1) & ~right;
        int size = listGains(right, wrong);
        int all = 0;
        for (int i = 0; i < size && i < gains.length; i++) {
            all |= gains[i];
        }
        return all == wrong ? fewestMends(wrong, size) : NONE;
    }

    /** Lists, each once, the sets of wrong RUNS that MENDS make RIGHT, and keep all that are RIGHT: how many. */
    private int listGains(int right, int wrong) {
        int size = 0;
        for (int i = 0; i < mends.size; i++) {
            mends.shape(now.body, i, shaped);
            int bits = rightBits(shaped);
            boolean isNew = (right & ~bits) == 0 && (wrong & bits) != 0;
            for (int j = 0; j < size && j < gains.length && isNew; j++) {
                isNew = gains[j] != (wrong & bits);
            }
            if (isNew && size < gains.length) {
                gains[size] = wrong & bits;
                size++;
            }
        }
        return size;
    }

    /** How many of the gains cover all the wrong RUNS at the least, worked out for every set of them that can be covered. */
    private int fewestMends(int wrong, int size) {
        for (int set = 0; set <= wrong && set < needs.length; set++) {
            needs[set] = TOO_MANY;
        }
        needs[0] = 0;
        for (int set = 0; set < wrong && set < needs.length; set++) {
            if (needs[set] < TOO_MANY) {
                addGains(set, lowestBit(wrong & ~set), needs[set] + 1, size);
            }
        }
        return wrong >= 0 && wrong < needs.length ? needs[wrong] : NONE;
    }

    private static int lowestBit(int bits) {
        return bits & -bits;
    }

    /** Of a covered set: the sets that one gain more, with this RUN in it, makes. */
    private void addGains(int set, int run, int need, int size) {
        for (int i = 0; i < size && i < gains.length; i++) {
            int more = set | gains[i];
            if ((gains[i] & run) != 0 && more >= 0 && more < needs.length && needs[more] > need) {
                needs[more] = (byte) need;
            }
        }
    }

    // ---- PUT IN

    public int putIn(int mend) throws IndexOutOfBoundsException {
        if (mend < 0 || mend >= mends.size) {
            throw new IndexOutOfBoundsException("no such MEND");
        }
        Runs runs = now.runs;
        for (int i = 0; i < runs.size && i < runEnds.length; i++) {
            runEnds[i] = walk.through(now.body, runs.x[i], runs.y[i]);
        }
        mends.shape(now.body, mend, faulty);
        if (endsAsAsked(faulty)) {
            return HARMLESS;
        }
        for (int x = 0; x <= now.box; x++) {
            for (int y = 0; y <= now.box; y++) {
                boxEnds[(16 * x + y) & (INPUTS - 1)] = walk.through(now.body, x, y);
            }
        }
        return judgeFault();
    }

    private int judgeFault() {
        faultMends.of(faulty);
        boolean some = false;
        boolean all = true;
        for (int i = 0; i < faultMends.size && (all || !some); i++) {
            faultMends.shape(faulty, i, shaped);
            if (endsAsAsked(shaped)) {
                boolean same = endsAsBody(shaped);
                some |= same;
                all &= same;
            }
        }
        if (!some) {
            return MISSED;
        }
        return all ? FOUND : IN_DOUBT;
    }

    /** Does a program end as the BODY on the inputs of all RUNS on which that has a number? */
    private boolean endsAsAsked(Program program) {
        Runs runs = now.runs;
        for (int i = 0; i < runs.size && i < runEnds.length; i++) {
            if (isNumber(runEnds[i]) && walk.through(program, runs.x[i], runs.y[i]) != runEnds[i]) {
                return false;
            }
        }
        return true;
    }

    private boolean endsAsBody(Program program) {
        for (int x = 0; x <= now.box; x++) {
            for (int y = 0; y <= now.box; y++) {
                if (walk.through(program, x, y) != boxEnds[(16 * x + y) & (INPUTS - 1)]) {
                    return false;
                }
            }
        }
        return true;
    }

    private static boolean isNumber(int end) {
        return end <= MOST_NUMBER;
    }

    // ---- MADE and TAKEN BACK

    public int make(int i) throws IndexOutOfBoundsException {
        int number = keptNumber(i);
        if (number == NONE) {
            throw new IndexOutOfBoundsException("no such kept ALIVE one");
        }
        mends.shape(now.body, number, shaped);
        now.pushBody();
        now.body.copyOf(shaped);
        beginAnew();
        return now.madeSize;
    }

    public boolean takeBack() {
        if (!now.popBody()) {
            return false;
        }
        beginAnew();
        return true;
    }

    // ---- ROWS

    public int row(int i, int what) throws NoSuchElementException {
        Tries tries = now.tries;
        if (i < 0 || i >= tries.rowSize || i >= MOST_ROWS || what < 0 || what > 1) {
            throw new NoSuchElementException("no such ROW");
        }
        return what == 0 ? tries.rowMend[i] : tries.rowRun[i];
    }

    public int tear(int i, int mask) throws NoSuchElementException {
        Tries tries = now.tries;
        if (i < 0 || i >= tries.rowSize || i >= MOST_ROWS) {
            throw new NoSuchElementException("no such ROW");
        }
        tries.rowRun[i] ^= mask;
        return tries.rowRun[i];
    }

    public int check() {
        Tries tries = now.tries;
        for (int i = 0; i < tries.rowSize && i < MOST_ROWS; i++) {
            if (tries.rowRun[i] != tries.rowWas[i]) {
                return i;
            }
        }
        return NONE;
    }

    // ---- THE IMAGE, and counts

    public void image() {
        kept.copyOf(now);
        imageKept = true;
    }

    public boolean back() {
        if (!imageKept) {
            return false;
        }
        now.copyOf(kept);
        mends.of(now.body);
        return true;
    }

    public int count(int what) {
        Tries tries = now.tries;
        switch (what) {
            case 0: return now.body.size;
            case 1: return now.runs.size;
            case 2: return hasBody() ? now.runs.size - Integer.bitCount(rightBits(now.body)) : 0;
            case 3: return mends.size;
            case 4: return mends.pairs();
            case 5: return tries.tried;
            case 6: return tries.keptSize;
            case 7: return tries.aliveInAll;
            case 8: return tries.pleased;
            case 9: return tries.barred;
            case 10: return now.madeSize;
            case 11: return now.second.size;
            case 12: return now.box;
            default: return NONE;
        }
    }

    // ---- LINES, each packed into one number: two are alike when their numbers are the same

    private static int packed(int kind, int made, int first, int sign, int second, int count) {
        return kind | (made + 1) << 3 | (first + 1) << 6 | sign << 13 | (second + 1) << 17 | count << 24;
    }

    private static int kindOf(int line) {
        return line & 7;
    }

    private static int madeOf(int line) {
        return (line >> 3 & 7) - 1;
    }

    private static int firstOf(int line) {
        return (line >> 6 & 127) - 1;
    }

    private static int signOf(int line) {
        return line >> 13 & 15;
    }

    private static int secondOf(int line) {
        return (line >> 17 & 127) - 1;
    }

    private static int countOf(int line) {
        return line >> 24 & 15;
    }

    private static int withMade(int line, int made) {
        return line & ~(7 << 3) | (made + 1) << 3;
    }

    private static int withFirst(int line, int atom) {
        return line & ~(127 << 6) | (atom + 1) << 6;
    }

    private static int withSign(int line, int sign) {
        return line & ~(15 << 13) | sign << 13;
    }

    private static int withSecond(int line, int atom) {
        return line & ~(127 << 17) | (atom + 1) << 17;
    }

    private static int withCount(int line, int count) {
        return line & ~(15 << 24) | count << 24;
    }

    /** A BODY, or what a MEND makes of it; without LINES it is none. */
    private static final class Program {
        private final int[] lines = new int[MOST_LINES];
        private int size;

        private int lineAt(int i) {
            return i >= 0 && i < size && i < lines.length ? lines[i] : NOTHING_LINE;
        }

        private void putLine(int i, int line) {
            if (i >= 0 && i < size && i < lines.length) {
                lines[i] = line;
            }
        }

        private void add(int line) {
            if (size >= 0 && size < lines.length) {
                lines[size] = line;
                size++;
            }
        }

        private void copyOf(Program other) {
            for (int i = 0; i < MOST_LINES; i++) {
                lines[i] = other.lines[i];
            }
            size = other.size;
        }
    }

    /** One program goes through its LINES with an input. */
    private static final class Walk {
        private final int[] value = new int[VARIABLES];
        /** The LINES on which each V rests, as bits. */
        private final int[] rests = new int[VARIABLES];
        /** The LINES of the TESTS that were done, and those on which they rest. */
        private int tests;
        private int inputX;
        private int inputY;
        /** V of this set LINE gets this value in place of the SUM. */
        private int freeLine = NONE;
        private int freeValue;
        private int seen;
        private int steps;
        private int slice;
        private int end;
        private boolean ended;

        private int through(Program program, int x, int y) {
            begin(x, y);
            int at = 0;
            for (int i = 0; i < MOST_STEPS && at < program.size && !ended; i++) {
                seen |= 1 << at;
                steps++;
                at = step(at, program.lineAt(at));
            }
            if (!ended && at < program.size) {
                end = OVER;
                slice = tests;
            } else if (!ended) {
                end = value[0];
                slice = tests | rests[0];
            }
            return end;
        }

        private void begin(int x, int y) {
            for (int i = 0; i < VARIABLES; i++) {
                value[i] = 0;
                rests[i] = 0;
            }
            inputX = x;
            inputY = y;
            tests = 0;
            seen = 0;
            steps = 0;
            slice = 0;
            end = 0;
            ended = false;
        }

        /** Does the LINE at a place: at which place it goes on. */
        private int step(int at, int line) {
            int kind = kindOf(line);
            if (kind == NOTHING) {
                return at + 1;
            }
            int first = firstOf(line);
            int second = secondOf(line);
            int under = 1 << at | restsOf(first) | restsOf(second);
            if (kind == SKIP || kind == BACK) {
                tests |= under;
                return holds(first, signOf(line), second) ? jump(at, kind, countOf(line)) : at + 1;
            }
            int sum = kind == SET && at == freeLine ? freeValue : sumOf(first, signOf(line), second);
            if (kind == END || !isNumber(sum)) {
                end = sum;
                slice = tests | under;
                ended = true;
                return at;
            }
            int made = madeOf(line);
            if (made >= 0 && made < VARIABLES) {
                value[made] = sum;
                rests[made] = under | tests;
            }
            return at + 1;
        }

        private static int jump(int at, int kind, int lines) {
            return kind == SKIP ? at + 1 + lines : Math.max(0, at - lines);
        }

        private int restsOf(int atom) {
            return atom >= 0 && atom < VARIABLES ? rests[atom] : 0;
        }

        private int valueOf(int atom) {
            if (atom >= 0 && atom < VARIABLES) {
                return value[atom];
            }
            if (atom == ATOM_X) {
                return inputX;
            }
            return atom == ATOM_Y ? inputY : atom - LEAST_NUMBER;
        }

        private boolean holds(int first, int sign, int second) {
            int left = valueOf(first);
            int right = valueOf(second);
            if (sign == LESS) {
                return left < right;
            }
            return sign == MORE ? left > right : left == right;
        }

        private int sumOf(int first, int sign, int second) {
            long left = valueOf(first);
            long right = valueOf(second);
            long sum = left;
            if (sign == PLUS) {
                sum = left + right;
            } else if (sign == MINUS) {
                sum = left - right;
            } else if (sign == TIMES) {
                sum = left * right;
            } else if (sign == DIVIDE || sign == REST) {
                if (right == 0) {
                    return DIVIDED;
                }
                sum = sign == DIVIDE ? left / right : left % right;
            }
            return sum > MOST_NUMBER || sum < -MOST_NUMBER ? BEYOND : (int) sum;
        }
    }

    /** The RUNS that are told. */
    private static final class Runs {
        private final int[] x = new int[MOST_RUNS];
        private final int[] y = new int[MOST_RUNS];
        private final int[] due = new int[MOST_RUNS];
        private int size;

        private void add(int newX, int newY, int newDue) {
            if (size >= 0 && size < MOST_RUNS) {
                x[size] = newX;
                y[size] = newY;
                due[size] = newDue;
                size++;
            }
        }

        /** Steps from an input to the nearest RUN's; 0 without RUNS. */
        private int stepsTo(int toX, int toY) {
            int least = size == 0 ? 0 : FAR;
            for (int i = 0; i < size && i < MOST_RUNS; i++) {
                least = Math.min(least, Math.abs(toX - x[i]) + Math.abs(toY - y[i]));
            }
            return least;
        }

        private void copyOf(Runs other) {
            for (int i = 0; i < MOST_RUNS; i++) {
                x[i] = other.x[i];
                y[i] = other.y[i];
                due[i] = other.due[i];
            }
            size = other.size;
        }
    }

    /** What all RUNS do by one program. */
    private static final class Survey {
        private final int[] seen = new int[MOST_RUNS];
        private final int[] slices = new int[MOST_RUNS];
        private int right;
        private int wrong;

        private void of(Program program, Runs runs, Walk walk) {
            right = 0;
            wrong = 0;
            for (int i = 0; i < runs.size && i < MOST_RUNS; i++) {
                if (walk.through(program, runs.x[i], runs.y[i]) == runs.due[i]) {
                    right |= 1 << i;
                } else {
                    wrong |= 1 << i;
                }
                seen[i] = walk.seen;
                slices[i] = walk.slice;
            }
        }

        /** In how many RUNS of a set a LINE is done. */
        private int doneIn(int line, int set) {
            int times = 0;
            for (int i = 0; i < MOST_RUNS; i++) {
                times += (set >> i & 1) == 1 ? seen[i] >> line & 1 : 0;
            }
            return times;
        }

        /** The LINES that are in the SLICES of all WRONG RUNS. */
        private int sharedSlice() {
            int bits = NONE;
            for (int i = 0; i < MOST_RUNS; i++) {
                bits &= (wrong >> i & 1) == 1 ? slices[i] : NONE;
            }
            return bits;
        }
    }

    /** The MENDS of one program, the single ones as LINES that they make, the DOUBLE ones by their numbers. */
    private static final class Mends {
        private final int[] form = new int[MOST_MENDS];
        private final int[] place = new int[MOST_MENDS];
        private final int[] after = new int[MOST_MENDS];
        /** Of each LINE: its first MEND, its MOVE (or NONE), and how many are no MOVES. */
        private final int[] begins = new int[MOST_LINES];
        private final int[] moves = new int[MOST_LINES];
        private final int[] plain = new int[MOST_LINES];
        private int size;
        /** The single MENDS of the one that part() was asked of. */
        private int one = NONE;
        private int two = NONE;

        private void of(Program program) {
            size = 0;
            for (int at = 0; at < MOST_LINES; at++) {
                begins[at] = size;
                moves[at] = NONE;
                if (at < program.size) {
                    addNames(at, program.lineAt(at));
                    addSigns(at, program.lineAt(at));
                    addBounds(at, program.lineAt(at));
                    addWhole(at, program);
                }
                plain[at] = size - begins[at] - (moves[at] == NONE ? 0 : 1);
            }
        }

        private void add(int newForm, int at, int line) {
            if (size >= 0 && size < MOST_MENDS) {
                form[size] = newForm;
                place[size] = at;
                after[size] = line;
                size++;
            }
        }

        private void addNames(int at, int line) {
            int first = firstOf(line);
            int second = secondOf(line);
            for (int name = 0; name < NAMES; name++) {
                if (first >= 0 && first < NAMES && name != first) {
                    add(NAME_FORM, at, withFirst(line, name));
                }
            }
            for (int name = 0; name < NAMES; name++) {
                if (second >= 0 && second < NAMES && name != second) {
                    add(NAME_FORM, at, withSecond(line, name));
                }
            }
            for (int made = 0; made < VARIABLES; made++) {
                if (kindOf(line) == SET && made != madeOf(line)) {
                    add(NAME_FORM, at, withMade(line, made));
                }
            }
        }

        private void addSigns(int at, int line) {
            int sign = signOf(line);
            if (sign == NO_SIGN) {
                return;
            }
            int from = sign < LESS ? PLUS : LESS;
            int to = sign < LESS ? REST : SAME;
            for (int other = from; other <= to; other++) {
                if (other != sign) {
                    add(SIGN_FORM, at, withSign(line, other));
                }
            }
        }

        private void addBounds(int at, int line) {
            int first = firstOf(line);
            int second = secondOf(line);
            int count = countOf(line);
            for (int more = -1; more <= 1; more += 2) {
                if (first >= LEAST_NUMBER && isNumberAtom(first + more)) {
                    add(BOUND_FORM, at, withFirst(line, first + more));
                }
            }
            for (int more = -1; more <= 1; more += 2) {
                if (second >= LEAST_NUMBER && isNumberAtom(second + more)) {
                    add(BOUND_FORM, at, withSecond(line, second + more));
                }
            }
            for (int more = -1; more <= 1; more += 2) {
                if (count > 0 && count + more >= 1 && count + more <= 9) {
                    add(BOUND_FORM, at, withCount(line, count + more));
                }
            }
        }

        private static boolean isNumberAtom(int atom) {
            return atom >= LEAST_NUMBER && atom <= MOST_NUMBER_ATOM;
        }

        /** OUT, MOVE and GRAFT: what is done to a LINE as a whole. */
        private void addWhole(int at, Program program) {
            int line = program.lineAt(at);
            if (line != NOTHING_LINE) {
                add(OUT_FORM, at, NOTHING_LINE);
            }
            if (at + 1 < program.size && program.lineAt(at + 1) != line && at < MOST_LINES) {
                moves[at] = size;
                add(MOVE_FORM, at, line);
            }
            for (int other = 0; other < program.size && other < MOST_LINES; other++) {
                if (program.lineAt(other) != line) {
                    add(GRAFT_FORM, at, program.lineAt(other));
                }
            }
        }

        /** How many MENDS that are no MOVES are on the LINES behind one. */
        private int plainBehind(int at) {
            int found = 0;
            for (int i = at + 1; i < MOST_LINES; i++) {
                found += plain[i];
            }
            return found;
        }

        private int pairs() {
            int found = 0;
            for (int at = 0; at < MOST_LINES; at++) {
                found += plain[at] * plainBehind(at);
            }
            return found;
        }

        /** Of which single MENDS a MEND is made; false, if there is no such MEND. */
        private boolean part(int number) {
            one = NONE;
            two = NONE;
            if (number >= 0 && number < size) {
                one = number;
                return true;
            }
            int left = number - size;
            for (int at = 0; at < MOST_LINES && left >= 0; at++) {
                int behind = plainBehind(at);
                if (behind > 0 && left < plain[at] * behind) {
                    one = plainFrom(at, left / behind);
                    two = plainFrom(at + 1, left % behind);
                    return true;
                }
                left -= plain[at] * behind;
            }
            return false;
        }

        /** The MEND that is no MOVE with so many of these ahead of it, from a LINE on. */
        private int plainFrom(int from, int skipped) {
            int left = skipped;
            for (int at = from; at >= 0 && at < MOST_LINES; at++) {
                if (left < plain[at]) {
                    int found = begins[at] + left;
                    return moves[at] != NONE && found >= moves[at] ? found + 1 : found;
                }
                left -= plain[at];
            }
            return NONE;
        }

        /** A program as by a MEND (NONE: as it is); false, and as it is, if there is no such MEND. */
        private boolean shape(Program from, int number, Program to) {
            to.copyOf(from);
            boolean found = part(number);
            change(one, from, to);
            change(two, from, to);
            return found;
        }

        private void change(int single, Program from, Program to) {
            if (single < 0 || single >= size || single >= MOST_MENDS) {
                return;
            }
            int at = place[single];
            if (form[single] == MOVE_FORM) {
                to.putLine(at, from.lineAt(at + 1));
                to.putLine(at + 1, from.lineAt(at));
            } else {
                to.putLine(at, after[single]);
            }
        }
    }

    /** What was tried of a BODY. */
    private static final class Tries {
        private final int[] kept = new int[MOST_KEPT];
        private int keptSize;
        private int tried;
        private int aliveInAll;
        private int pleased;
        private int barred;
        private final int[] rowMend = new int[MOST_ROWS];
        private final int[] rowRun = new int[MOST_ROWS];
        /** What each ROW told when it was written: check() holds it against what it tells now. */
        private final int[] rowWas = new int[MOST_ROWS];
        private int rowSize;

        private void forget() {
            keptSize = 0;
            tried = 0;
            aliveInAll = 0;
            pleased = 0;
            barred = 0;
            rowSize = 0;
        }

        /** The next MEND was tried, with the first RUN that is not RIGHT by it, or NONE. */
        private void add(int wrongRun) {
            if (wrongRun == NONE) {
                if (keptSize >= 0 && keptSize < MOST_KEPT) {
                    kept[keptSize] = tried;
                    keptSize++;
                }
                aliveInAll++;
            }
            if (rowSize == MOST_ROWS) {
                dropOldest();
            }
            if (rowSize >= 0 && rowSize < MOST_ROWS) {
                rowMend[rowSize] = tried;
                rowRun[rowSize] = wrongRun;
                rowWas[rowSize] = wrongRun;
                rowSize++;
            }
            tried++;
        }

        private void dropOldest() {
            for (int i = 1; i < MOST_ROWS; i++) {
                rowMend[i - 1] = rowMend[i];
                rowRun[i - 1] = rowRun[i];
                rowWas[i - 1] = rowWas[i];
            }
            rowSize--;
        }

        private void copyOf(Tries other) {
            for (int i = 0; i < MOST_KEPT; i++) {
                kept[i] = other.kept[i];
            }
            for (int i = 0; i < MOST_ROWS; i++) {
                rowMend[i] = other.rowMend[i];
                rowRun[i] = other.rowRun[i];
                rowWas[i] = other.rowWas[i];
            }
            keptSize = other.keptSize;
            tried = other.tried;
            aliveInAll = other.aliveInAll;
            pleased = other.pleased;
            barred = other.barred;
            rowSize = other.rowSize;
        }
    }

    /** A LAW, worked out from left to right: what AND, OR and NOT bind stands ahead of them. Without codes it is none. */
    private static final class Law {
        private final int[] codes = new int[MOST_BYTES];
        private int size;

        private void add(int code) {
            if (size >= 0 && size < codes.length) {
                codes[size] = code;
                size++;
            }
        }

        private static int comparison(int left, int sign, int right) {
            return left | right << 14 | (sign - LESS) << 28;
        }

        /** The truths that wait are bits of one number: there are two at most for each depth. */
        private boolean holds(int r, int x, int y) {
            int truths = 0;
            for (int i = 0; i < size && i < codes.length; i++) {
                int code = codes[i];
                if (code >= 0) {
                    truths = truths << 1 | (compares(code, r, x, y) ? 1 : 0);
                } else if (code == LAW_NOT) {
                    truths ^= 1;
                } else {
                    int top = truths & 1;
                    truths >>>= 1;
                    truths = code == LAW_OR ? truths | top : truths & (top | ~1);
                }
            }
            return (truths & 1) == 1;
        }

        private static boolean compares(int code, int r, int x, int y) {
            int left = valueOf(code & 16383, r, x, y);
            int right = valueOf(code >> 14 & 16383, r, x, y);
            int sign = (code >> 28 & 3) + LESS;
            if (sign == LESS) {
                return left < right;
            }
            return sign == MORE ? left > right : left == right;
        }

        private static int valueOf(int atom, int r, int x, int y) {
            if (atom == LAW_R) {
                return r;
            }
            if (atom == LAW_X) {
                return x;
            }
            return atom == LAW_Y ? y : atom - LEAST_NUMBER;
        }

        private void copyOf(Law other) {
            for (int i = 0; i < MOST_BYTES; i++) {
                codes[i] = other.codes[i];
            }
            size = other.size;
        }
    }

    /** All that THE IMAGE holds. */
    private static final class State {
        private final Program body = new Program();
        private final Program second = new Program();
        private final Runs runs = new Runs();
        private final Law law = new Law();
        private final Tries tries = new Tries();
        private final int[] taught = new int[FORMS];
        private final Program[] made = new Program[MOST_MADE];
        private int madeSize;
        private int box = FIRST_BOX;

        private State() {
            for (int i = 0; i < made.length; i++) {
                made[i] = new Program();
            }
        }

        /** The BODY may be TAKEN BACK to what it is now. */
        private void pushBody() {
            if (madeSize == MOST_MADE) {
                for (int i = 1; i < MOST_MADE; i++) {
                    made[i - 1].copyOf(made[i]);
                }
                madeSize--;
            }
            if (madeSize >= 0 && madeSize < MOST_MADE) {
                made[madeSize].copyOf(body);
                madeSize++;
            }
        }

        private boolean popBody() {
            if (madeSize <= 0 || madeSize > MOST_MADE) {
                return false;
            }
            madeSize--;
            body.copyOf(made[madeSize]);
            return true;
        }

        private void copyOf(State other) {
            body.copyOf(other.body);
            second.copyOf(other.second);
            runs.copyOf(other.runs);
            law.copyOf(other.law);
            tries.copyOf(other.tries);
            for (int i = 0; i < FORMS; i++) {
                taught[i] = other.taught[i];
            }
            for (int i = 0; i < MOST_MADE; i++) {
                made[i].copyOf(other.made[i]);
            }
            madeSize = other.madeSize;
            box = other.box;
        }
    }

    /** The TAPE, and its words, numbers and marks, one after another. */
    private static final class Tape {
        private final int[] bytes = new int[MOST_BYTES];
        private int size;
        private int kind;
        private int begin;
        private int behind;
        /** A number's value (of more than four digits: any above theirs), a mark's byte, a word's first one. */
        private int value;

        private void add(int number) {
            for (int shift = 24; shift >= 0; shift -= 8) {
                if (size >= 0 && size < MOST_BYTES) {
                    bytes[size] = number >>> shift & 255;
                    size++;
                }
            }
        }

        private void open() {
            behind = 0;
            next();
        }

        private void next() {
            int i = behind;
            while (i >= 0 && i < size && i < MOST_BYTES && bytes[i] == ' ') {
                i++;
            }
            begin = i;
            kind = AT_END;
            value = 0;
            if (i >= 0 && i < size && i < MOST_BYTES) {
                kind = MARK;
                value = bytes[i];
                i++;
            }
            if (value >= 'a' && value <= 'z') {
                kind = WORD;
                while (i >= 0 && i < size && i < MOST_BYTES && bytes[i] >= 'a' && bytes[i] <= 'z') {
                    i++;
                }
            } else if (value >= '0' && value <= '9') {
                kind = NUMBER;
                value -= '0';
                while (i >= 0 && i < size && i < MOST_BYTES && bytes[i] >= '0' && bytes[i] <= '9') {
                    value = value > 9999 ? value : value * 10 + bytes[i] - '0';
                    i++;
                }
            }
            behind = i;
        }

        private boolean isNumber(int mostDigits) {
            return kind == NUMBER && behind - begin <= mostDigits;
        }

        private boolean isMark(char mark) {
            return kind == MARK && value == mark;
        }

        private boolean isWord(String word) {
            if (kind != WORD || behind - begin != word.length()) {
                return false;
            }
            for (int i = 0; i < word.length() && begin + i < MOST_BYTES; i++) {
                if (bytes[begin + i] != word.charAt(i)) {
                    return false;
                }
            }
            return true;
        }

        /** The place of a word of one letter among some letters; NONE. */
        private int letterOf(String letters) {
            if (kind != WORD || behind - begin != 1) {
                return NONE;
            }
            for (int i = 0; i < letters.length(); i++) {
                if (value == letters.charAt(i)) {
                    return i;
                }
            }
            return NONE;
        }

        /** The OP or SIGN that stands here; NO_SIGN. */
        private int sign() {
            if (kind != MARK) {
                return NO_SIGN;
            }
            switch (value) {
                case '+': return PLUS;
                case '-': return MINUS;
                case '*': return TIMES;
                case '/': return DIVIDE;
                case '%': return REST;
                case '<': return LESS;
                case '>': return MORE;
                case '=': return SAME;
                default: return NO_SIGN;
            }
        }
    }

    /** Reads a BODY; where it stops, the thing that stands there cannot stand there. */
    private static final class BodyReader {
        private final Program read = new Program();

        /** The first wrong byte of the text; NONE, and the BODY is read. */
        private int wrongIn(Tape tape) {
            read.size = 0;
            tape.open();
            for (int i = 0; i < MOST_LINES; i++) {
                if (!readLine(tape)) {
                    return tape.begin;
                }
                if (tape.kind == AT_END) {
                    return NONE;
                }
                if (!tape.isMark(';')) {
                    return tape.begin;
                }
                tape.next();
            }
            return tape.begin;
        }

        private boolean readLine(Tape tape) {
            if (tape.isWord("set")) {
                return readSet(tape);
            }
            if (tape.isWord("skip")) {
                return readJump(tape, SKIP);
            }
            if (tape.isWord("back")) {
                return readJump(tape, BACK);
            }
            return tape.isWord("end") && readSum(tape, END, NONE);
        }

        private boolean readSet(Tape tape) {
            tape.next();
            int made = tape.letterOf("abcd");
            if (made == NONE) {
                return false;
            }
            tape.next();
            return tape.isMark('=') && readSum(tape, SET, made);
        }

        private boolean readSum(Tape tape, int kind, int made) {
            tape.next();
            int first = atom(tape);
            if (first == NONE) {
                return false;
            }
            tape.next();
            int sign = tape.sign();
            if (sign < PLUS || sign > REST) {
                read.add(packed(kind, made, first, NO_SIGN, NONE, 0));
                return true;
            }
            tape.next();
            int second = atom(tape);
            if (second == NONE) {
                return false;
            }
            tape.next();
            read.add(packed(kind, made, first, sign, second, 0));
            return true;
        }

        private boolean readJump(Tape tape, int kind) {
            tape.next();
            int count = tape.value;
            if (!tape.isNumber(1) || count == 0) {
                return false;
            }
            tape.next();
            if (!tape.isWord("if")) {
                return false;
            }
            tape.next();
            int first = atom(tape);
            if (first == NONE) {
                return false;
            }
            tape.next();
            int sign = tape.sign();
            if (sign < LESS || sign > SAME) {
                return false;
            }
            tape.next();
            int second = atom(tape);
            if (second == NONE) {
                return false;
            }
            tape.next();
            read.add(packed(kind, NONE, first, sign, second, count));
            return true;
        }

        private int atom(Tape tape) {
            return tape.isNumber(2) ? tape.value + LEAST_NUMBER : tape.letterOf("abcdxy");
        }
    }

    /** Reads a LAW, likewise. */
    private static final class LawReader {
        private final Law read = new Law();

        private int wrongIn(Tape tape) {
            read.size = 0;
            tape.open();
            return readCondition(tape, 0) && tape.kind == AT_END ? NONE : tape.begin;
        }

        private boolean readCondition(Tape tape, int depth) {
            if (!readAll(tape, depth)) {
                return false;
            }
            for (int i = 0; i < MOST_BYTES && tape.isWord("or"); i++) {
                tape.next();
                if (!readAll(tape, depth)) {
                    return false;
                }
                read.add(LAW_OR);
            }
            return true;
        }

        private boolean readAll(Tape tape, int depth) {
            if (!readItem(tape, depth)) {
                return false;
            }
            for (int i = 0; i < MOST_BYTES && tape.isWord("and"); i++) {
                tape.next();
                if (!readItem(tape, depth)) {
                    return false;
                }
                read.add(LAW_AND);
            }
            return true;
        }

        private boolean readItem(Tape tape, int depth) {
            boolean not = tape.isWord("not");
            if (!not && !tape.isMark('(')) {
                return readComparison(tape);
            }
            if (depth >= MOST_DEPTH) {
                return false;
            }
            tape.next();
            if (not) {
                if (!readItem(tape, depth + 1)) {
                    return false;
                }
                read.add(LAW_NOT);
                return true;
            }
            if (!readCondition(tape, depth + 1) || !tape.isMark(')')) {
                return false;
            }
            tape.next();
            return true;
        }

        private boolean readComparison(Tape tape) {
            int left = lawAtom(tape);
            if (left == NONE) {
                return false;
            }
            tape.next();
            int sign = tape.sign();
            if (sign < LESS || sign > SAME) {
                return false;
            }
            tape.next();
            int right = lawAtom(tape);
            if (right == NONE) {
                return false;
            }
            tape.next();
            read.add(Law.comparison(left, sign, right));
            return true;
        }

        private int lawAtom(Tape tape) {
            return tape.isNumber(4) ? tape.value + LEAST_NUMBER : tape.letterOf("rxy");
        }
    }
}
