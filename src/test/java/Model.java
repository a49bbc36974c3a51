import java.util.ArrayList;
import java.util.Arrays;
import java.util.HashMap;
import java.util.List;
import java.util.Map;
import java.util.NoSuchElementException;
import java.util.TreeSet;

/** The document once more, told as plainly as can be with the whole Java library: what MendBench must answer. */
final class Model {
    static final int NONE = -1;

    /** Text where a thing cannot stand. */
    static final class Wrong extends Exception {
        final int at;

        Wrong(int at) {
            this.at = at;
        }
    }

    record Token(int at, String text) {
        boolean isWord() {
            return !text.isEmpty() && text.charAt(0) >= 'a' && text.charAt(0) <= 'z';
        }

        boolean isNumber() {
            return !text.isEmpty() && text.charAt(0) >= '0' && text.charAt(0) <= '9';
        }
    }

    /** One LINE: kind "set", "skip", "back", "end" or "nothing"; ATOMS as texts, numbers without a 0 ahead. */
    record Line(String kind, String made, String left, String sign, String right, int count) { }

    static final Line NOTHING = new Line("nothing", "", "", "", "", 0);

    record Mend(int form, int line, List<Line> whole, Line changed) { }

    record Told(int x, int y, int due) { }

    static final class Row {
        int mend;
        int run;
        int was;
    }

    interface Cond {
        boolean holds(int r, int x, int y);
    }

    /** What going through a program showed. */
    static final class Trip {
        int end;
        int lines;
        TreeSet<Integer> done = new TreeSet<>();
        TreeSet<Integer> slice = new TreeSet<>();
    }

    static final class State {
        List<Line> body = List.of();
        List<Line> second = List.of();
        List<Told> runs = new ArrayList<>();
        Cond law = null;
        int box = 7;
        int[] taught = new int[6];
        List<List<Line>> made = new ArrayList<>();
        int tried = 0;
        List<Integer> kept = new ArrayList<>();
        int aliveAll = 0;
        int pleased = 0;
        int barred = 0;
        List<Row> rows = new ArrayList<>();

        State copy() {
            State s = new State();
            s.body = body;
            s.second = second;
            s.runs = new ArrayList<>(runs);
            s.law = law;
            s.box = box;
            s.taught = taught.clone();
            s.made = new ArrayList<>(made);
            s.tried = tried;
            s.kept = new ArrayList<>(kept);
            s.aliveAll = aliveAll;
            s.pleased = pleased;
            s.barred = barred;
            for (Row r : rows) {
                Row c = new Row();
                c.mend = r.mend;
                c.run = r.run;
                c.was = r.was;
                s.rows.add(c);
            }
            return s;
        }
    }

    State s = new State();
    State image = null;
    List<Integer> tape = new ArrayList<>();
    int fault = NONE;
    private List<Line> listedFor = null;
    private List<Mend> singles = List.of();
    private List<int[]> doubles = List.of();

    // ---- texts

    static List<Token> tokens(List<Integer> bytes) {
        List<Token> found = new ArrayList<>();
        int i = 0;
        while (i < bytes.size()) {
            int c = bytes.get(i);
            if (c == 32) {
                i++;
                continue;
            }
            int j = i + 1;
            StringBuilder text = new StringBuilder().append((char) c);
            boolean letter = c >= 'a' && c <= 'z';
            boolean digit = c >= '0' && c <= '9';
            while (j < bytes.size() && (letter && bytes.get(j) >= 'a' && bytes.get(j) <= 'z'
                    || digit && bytes.get(j) >= '0' && bytes.get(j) <= '9')) {
                text.append((char) (int) bytes.get(j));
                j++;
            }
            found.add(new Token(i, text.toString()));
            i = j;
        }
        found.add(new Token(bytes.size(), ""));
        return found;
    }

    static final class Reader {
        final List<Token> tokens;
        int next = 0;

        Reader(List<Integer> bytes) {
            tokens = tokens(bytes);
        }

        Token peek() {
            return tokens.get(next);
        }

        Token take(String... allowed) throws Wrong {
            for (String a : allowed) {
                if (peek().text().equals(a)) {
                    return tokens.get(next++);
                }
            }
            throw new Wrong(peek().at());
        }

        String takeNumberOr(int digits, String... names) throws Wrong {
            Token t = peek();
            if (t.isNumber() && t.text().length() <= digits) {
                next++;
                return String.valueOf(Integer.parseInt(t.text()));
            }
            return take(names).text();
        }

        boolean ended() {
            return peek().text().isEmpty();
        }
    }

    static List<Line> readBody(List<Integer> bytes) throws Wrong {
        Reader r = new Reader(bytes);
        List<Line> lines = new ArrayList<>();
        while (true) {
            if (lines.size() == 10) {
                throw new Wrong(r.peek().at());
            }
            lines.add(readLine(r));
            if (r.ended()) {
                return lines;
            }
            r.take(";");
        }
    }

    static String atom(Reader r) throws Wrong {
        return r.takeNumberOr(2, "a", "b", "c", "d", "x", "y");
    }

    static Line readLine(Reader r) throws Wrong {
        String kind = r.take("set", "skip", "back", "end").text();
        if (kind.equals("skip") || kind.equals("back")) {
            int count = Integer.parseInt(r.take("1", "2", "3", "4", "5", "6", "7", "8", "9").text());
            r.take("if");
            String left = atom(r);
            String sign = r.take("<", ">", "=").text();
            return new Line(kind, "", left, sign, atom(r), count);
        }
        String made = "";
        if (kind.equals("set")) {
            made = r.take("a", "b", "c", "d").text();
            r.take("=");
        }
        String left = atom(r);
        String next = r.peek().text();
        if (next.length() == 1 && "+-*/%".contains(next)) {
            String sign = r.take(next).text();
            return new Line(kind, made, left, sign, atom(r), 0);
        }
        return new Line(kind, made, left, "", "", 0);
    }

    static Cond readLaw(List<Integer> bytes) throws Wrong {
        Reader r = new Reader(bytes);
        Cond c = readCond(r, 0);
        if (!r.ended()) {
            throw new Wrong(r.peek().at());
        }
        return c;
    }

    static Cond readCond(Reader r, int deep) throws Wrong {
        List<Cond> parts = new ArrayList<>();
        parts.add(readAll(r, deep));
        while (r.peek().text().equals("or")) {
            r.take("or");
            parts.add(readAll(r, deep));
        }
        return (e, x, y) -> parts.stream().anyMatch(p -> p.holds(e, x, y));
    }

    static Cond readAll(Reader r, int deep) throws Wrong {
        List<Cond> parts = new ArrayList<>();
        parts.add(readItem(r, deep));
        while (r.peek().text().equals("and")) {
            r.take("and");
            parts.add(readItem(r, deep));
        }
        return (e, x, y) -> parts.stream().allMatch(p -> p.holds(e, x, y));
    }

    static Cond readItem(Reader r, int deep) throws Wrong {
        Token t = r.peek();
        if ((t.text().equals("not") || t.text().equals("(")) && deep == 6) {
            throw new Wrong(t.at());
        }
        if (t.text().equals("not")) {
            r.take("not");
            Cond inner = readItem(r, deep + 1);
            return (e, x, y) -> !inner.holds(e, x, y);
        }
        if (t.text().equals("(")) {
            r.take("(");
            Cond inner = readCond(r, deep + 1);
            r.take(")");
            return inner;
        }
        String left = r.takeNumberOr(4, "r", "x", "y");
        String sign = r.take("<", ">", "=").text();
        String right = r.takeNumberOr(4, "r", "x", "y");
        return (e, x, y) -> compare(lawValue(left, e, x, y), sign, lawValue(right, e, x, y));
    }

    static int lawValue(String atom, int e, int x, int y) {
        return switch (atom) {
            case "r" -> e;
            case "x" -> x;
            case "y" -> y;
            default -> Integer.parseInt(atom);
        };
    }

    static boolean compare(int left, String sign, int right) {
        return sign.equals("<") ? left < right : sign.equals(">") ? left > right : left == right;
    }

    // ---- going through

    static Trip go(List<Line> program, int x, int y, int freeLine, int freeValue) {
        Trip t = new Trip();
        Map<String, Integer> value = new HashMap<>(Map.of("a", 0, "b", 0, "c", 0, "d", 0, "x", x, "y", y));
        Map<String, TreeSet<Integer>> rests = new HashMap<>();
        for (String v : List.of("a", "b", "c", "d")) {
            rests.put(v, new TreeSet<>());
        }
        TreeSet<Integer> tests = new TreeSet<>();
        int at = 0;
        while (true) {
            if (at >= program.size()) {
                t.end = value.get("a");
                t.slice.addAll(tests);
                t.slice.addAll(rests.get("a"));
                return t;
            }
            if (t.lines == 100) {
                t.end = 2000003;
                t.slice.addAll(tests);
                return t;
            }
            t.lines++;
            t.done.add(at);
            Line line = program.get(at);
            TreeSet<Integer> under = new TreeSet<>(List.of(at));
            under.addAll(rests.getOrDefault(line.left(), new TreeSet<>()));
            under.addAll(rests.getOrDefault(line.right(), new TreeSet<>()));
            switch (line.kind()) {
                case "nothing" -> at++;
                case "skip", "back" -> {
                    tests.addAll(under);
                    boolean holds = compare(valueOf(value, line.left()), line.sign(), valueOf(value, line.right()));
                    if (!holds) {
                        at++;
                    } else if (line.kind().equals("skip")) {
                        at += 1 + line.count();
                    } else {
                        at = Math.max(0, at - line.count());
                    }
                }
                default -> {
                    boolean free = line.kind().equals("set") && at == freeLine;
                    int sum = free ? freeValue : sum(line, value);
                    if (line.kind().equals("end") || sum > 999999) {
                        t.end = sum;
                        t.slice.addAll(tests);
                        t.slice.addAll(under);
                        return t;
                    }
                    value.put(line.made(), sum);
                    under.addAll(tests);
                    rests.put(line.made(), under);
                    at++;
                }
            }
        }
    }

    static int valueOf(Map<String, Integer> value, String atom) {
        return value.containsKey(atom) ? value.get(atom) : Integer.parseInt(atom);
    }

    static int sum(Line line, Map<String, Integer> value) {
        java.math.BigInteger left = java.math.BigInteger.valueOf(valueOf(value, line.left()));
        java.math.BigInteger all = left;
        if (!line.sign().isEmpty()) {
            java.math.BigInteger right = java.math.BigInteger.valueOf(valueOf(value, line.right()));
            boolean parts = line.sign().equals("/") || line.sign().equals("%");
            if (parts && right.signum() == 0) {
                return 2000001;
            }
            all = switch (line.sign()) {
                case "+" -> left.add(right);
                case "-" -> left.subtract(right);
                case "*" -> left.multiply(right);
                case "/" -> left.divide(right);
                default -> left.remainder(right);
            };
        }
        return all.abs().compareTo(java.math.BigInteger.valueOf(999999)) > 0 ? 2000002 : all.intValue();
    }

    static int endOf(List<Line> program, int x, int y) {
        return go(program, x, y, NONE, 0).end;
    }

    static boolean right(List<Line> program, Told run) {
        return endOf(program, run.x(), run.y()) == run.due();
    }

    static int bits(TreeSet<Integer> lines) {
        int bits = 0;
        for (int i : lines) {
            bits |= 1 << i;
        }
        return bits;
    }

    // ---- mends

    static List<Mend> singles(List<Line> body) {
        List<Mend> all = new ArrayList<>();
        for (int i = 0; i < body.size(); i++) {
            Line l = body.get(i);
            List<String> names = List.of("a", "b", "c", "d", "x", "y");
            for (String n : names) {
                if (names.contains(l.left()) && !n.equals(l.left())) {
                    add(all, 0, i, body, new Line(l.kind(), l.made(), n, l.sign(), l.right(), l.count()));
                }
            }
            for (String n : names) {
                if (names.contains(l.right()) && !n.equals(l.right())) {
                    add(all, 0, i, body, new Line(l.kind(), l.made(), l.left(), l.sign(), n, l.count()));
                }
            }
            for (String n : List.of("a", "b", "c", "d")) {
                if (!l.made().isEmpty() && !n.equals(l.made())) {
                    add(all, 0, i, body, new Line(l.kind(), n, l.left(), l.sign(), l.right(), l.count()));
                }
            }
            for (List<String> signs : List.of(List.of("+", "-", "*", "/", "%"), List.of("<", ">", "="))) {
                for (String n : signs) {
                    if (signs.contains(l.sign()) && !n.equals(l.sign())) {
                        add(all, 1, i, body, new Line(l.kind(), l.made(), l.left(), n, l.right(), l.count()));
                    }
                }
            }
            for (String n : besides(l.left())) {
                add(all, 2, i, body, new Line(l.kind(), l.made(), n, l.sign(), l.right(), l.count()));
            }
            for (String n : besides(l.right())) {
                add(all, 2, i, body, new Line(l.kind(), l.made(), l.left(), l.sign(), n, l.count()));
            }
            for (int n : new int[] {l.count() - 1, l.count() + 1}) {
                if (l.count() > 0 && n >= 1 && n <= 9) {
                    add(all, 2, i, body, new Line(l.kind(), l.made(), l.left(), l.sign(), l.right(), n));
                }
            }
            if (!l.kind().equals("nothing")) {
                add(all, 3, i, body, NOTHING);
            }
            if (i + 1 < body.size() && !body.get(i + 1).equals(l)) {
                List<Line> whole = new ArrayList<>(body);
                whole.set(i, body.get(i + 1));
                whole.set(i + 1, l);
                all.add(new Mend(4, i, whole, null));
            }
            for (int j = 0; j < body.size(); j++) {
                if (!body.get(j).equals(l)) {
                    add(all, 5, i, body, body.get(j));
                }
            }
        }
        return all;
    }

    static List<String> besides(String atom) {
        List<String> found = new ArrayList<>();
        if (!atom.isEmpty() && Character.isDigit(atom.charAt(0))) {
            int n = Integer.parseInt(atom);
            if (n > 0) {
                found.add(String.valueOf(n - 1));
            }
            if (n < 99) {
                found.add(String.valueOf(n + 1));
            }
        }
        return found;
    }

    static void add(List<Mend> all, int form, int at, List<Line> body, Line changed) {
        List<Line> whole = new ArrayList<>(body);
        whole.set(at, changed);
        all.add(new Mend(form, at, whole, changed));
    }

    private void list() {
        if (listedFor == s.body) {
            return;
        }
        listedFor = s.body;
        singles = singles(s.body);
        doubles = new ArrayList<>();
        for (int i = 0; i < singles.size(); i++) {
            for (int j = i + 1; j < singles.size(); j++) {
                if (singles.get(i).line() != singles.get(j).line() && singles.get(i).form() != 4
                        && singles.get(j).form() != 4) {
                    doubles.add(new int[] {i, j});
                }
            }
        }
    }

    private List<Line> by(int number) {
        list();
        if (number < singles.size()) {
            return singles.get(number).whole();
        }
        int[] two = doubles.get(number - singles.size());
        List<Line> whole = new ArrayList<>(s.body);
        whole.set(singles.get(two[0]).line(), singles.get(two[0]).changed());
        whole.set(singles.get(two[1]).line(), singles.get(two[1]).changed());
        return whole;
    }

    private int firstWrong(List<Line> program) {
        for (int i = 0; i < s.runs.size(); i++) {
            if (!right(program, s.runs.get(i))) {
                return i;
            }
        }
        return NONE;
    }

    private void anew() {
        s.tried = 0;
        s.kept.clear();
        s.aliveAll = 0;
        s.pleased = 0;
        s.barred = 0;
        s.rows.clear();
    }

    // ---- the face

    int feed(int a, int b, int c, int d, int e) {
        if (tape.size() + 20 > 400) {
            return NONE;
        }
        for (int n : new int[] {a, b, c, d, e}) {
            for (byte one : java.nio.ByteBuffer.allocate(4).putInt(n).array()) {
                tape.add(one & 255);
            }
        }
        return tape.size();
    }

    boolean end(int n) {
        if (n < 0 || n > tape.size()) {
            return false;
        }
        tape = new ArrayList<>(tape.subList(0, n));
        return true;
    }

    int body(boolean second) {
        List<Integer> text = tape;
        tape = new ArrayList<>();
        try {
            List<Line> read = readBody(text);
            fault = NONE;
            if (second) {
                s.second = read;
            } else {
                s.body = read;
                s.made.clear();
                anew();
            }
            return read.size();
        } catch (Wrong w) {
            fault = w.at;
            throw new IllegalArgumentException();
        }
    }

    boolean law() {
        List<Integer> text = tape;
        tape = new ArrayList<>();
        try {
            s.law = readLaw(text);
            fault = NONE;
            return true;
        } catch (Wrong w) {
            fault = w.at;
            throw new IllegalArgumentException();
        }
    }

    int fault() {
        return fault;
    }

    int run(int x, int y, int due) {
        if (x < 0 || x > 15 || y < 0 || y > 15 || Math.abs((long) due) > 999999) {
            throw new IllegalArgumentException();
        }
        if (s.runs.size() == 12) {
            throw new UnsupportedOperationException();
        }
        Told told = new Told(x, y, due);
        s.runs.add(told);
        int before = s.kept.size();
        s.kept.removeIf(m -> !right(by(m), told));
        s.pleased += before - s.kept.size();
        return s.runs.size() - 1;
    }

    int ends(int x, int y, boolean second) {
        List<Line> program = second ? s.second : s.body;
        if (program.isEmpty()) {
            throw new IllegalStateException();
        }
        return endOf(program, x, y);
    }

    private void needIndex(int i, int size) {
        if (i < 0 || i >= size) {
            throw new IndexOutOfBoundsException();
        }
    }

    private void needBody() {
        if (s.body.isEmpty()) {
            throw new IllegalStateException();
        }
    }

    private void needWhat(int what, int most) {
        if (what < 0 || what > most) {
            throw new NoSuchElementException();
        }
    }

    int look(int run, int what) {
        needIndex(run, s.runs.size());
        needBody();
        needWhat(what, 6);
        Told r = s.runs.get(run);
        Trip t = go(s.body, r.x(), r.y(), NONE, 0);
        return new int[] {r.x(), r.y(), r.due(), t.end, t.end == r.due() ? 1 : 0, t.lines, bits(t.slice)}[what];
    }

    int done(int line, boolean wrong) {
        needIndex(line, s.body.size());
        return (int) s.runs.stream().filter(r -> right(s.body, r) != wrong
                && go(s.body, r.x(), r.y(), NONE, 0).done.contains(line)).count();
    }

    int where(int what) {
        needBody();
        needWhat(what, 2);
        List<Told> wrong = s.runs.stream().filter(r -> !right(s.body, r)).toList();
        if (wrong.isEmpty()) {
            return 0;
        }
        int most = 0;
        for (int i = 0; i < s.body.size(); i++) {
            most = Math.max(most, done(i, true));
        }
        int fewest = 99;
        for (int i = 0; i < s.body.size(); i++) {
            fewest = done(i, true) == most ? Math.min(fewest, done(i, false)) : fewest;
        }
        TreeSet<Integer> blame = new TreeSet<>();
        TreeSet<Integer> free = new TreeSet<>();
        for (int i = 0; i < s.body.size(); i++) {
            if (done(i, true) == most && done(i, false) == fewest) {
                blame.add(i);
            }
            int line = i;
            if (s.body.get(i).kind().equals("set") && wrong.stream().allMatch(r -> canFree(line, r))) {
                free.add(i);
            }
        }
        TreeSet<Integer> agree = new TreeSet<>(blame);
        agree.retainAll(free);
        for (Told r : wrong) {
            agree.retainAll(go(s.body, r.x(), r.y(), NONE, 0).slice);
        }
        return bits(List.of(blame, free, agree).get(what));
    }

    private boolean canFree(int line, Told r) {
        for (int v = -20; v <= 20; v++) {
            if (go(s.body, r.x(), r.y(), line, v).end == r.due()) {
                return true;
            }
        }
        return false;
    }

    int mend(int mend, int what) {
        list();
        needIndex(mend, singles.size());
        needWhat(what, 3);
        Mend m = singles.get(mend);
        int[] found = {m.form(), m.line(), 0, 0};
        for (Told r : s.runs) {
            boolean before = right(s.body, r);
            boolean after = right(m.whole(), r);
            found[2] += !before && after ? 1 : 0;
            found[3] += before && !after ? 1 : 0;
        }
        return found[what];
    }

    private static int atomCode(String atom) {
        if (atom.isEmpty()) {
            return NONE;
        }
        int at = "abcdxy".indexOf(atom.charAt(0));
        return at >= 0 ? at : Integer.parseInt(atom) + 10;
    }

    int line(int mend, int line, int what) {
        list();
        if (mend != NONE) {
            needIndex(mend, singles.size());
        }
        needIndex(line, s.body.size());
        needWhat(what, 5);
        Line l = (mend == NONE ? s.body : singles.get(mend).whole()).get(line);
        return new int[] {List.of("set", "skip", "back", "end", "nothing").indexOf(l.kind()), atomCode(l.made()),
            atomCode(l.left()), l.sign().isEmpty() ? 0 : 1 + "+-*/%<>=".indexOf(l.sign()), atomCode(l.right()),
            l.count()}[what];
    }

    int tries(int n) {
        if (n < 0 || n > 400) {
            throw new IllegalArgumentException();
        }
        needBody();
        list();
        int before = s.tried;
        while (s.tried < before + n && s.tried < singles.size() + doubles.size()) {
            Row row = new Row();
            row.mend = s.tried;
            row.run = firstWrong(by(s.tried));
            row.was = row.run;
            s.rows.add(row);
            if (s.rows.size() > 8) {
                s.rows.remove(0);
            }
            if (row.run == NONE) {
                s.aliveAll++;
                if (s.kept.size() < 30) {
                    s.kept.add(s.tried);
                }
            }
            s.tried++;
        }
        return s.tried - before;
    }

    int alive(int i, int what) {
        needIndex(i, s.kept.size());
        needWhat(what, 2);
        int number = s.kept.get(i);
        if (what == 0) {
            return number;
        }
        list();
        if (number < singles.size()) {
            return what == 1 ? number : NONE;
        }
        return doubles.get(number - singles.size())[what - 1];
    }

    int aliveEnds(int i, int x, int y) {
        needIndex(i, s.kept.size());
        return endOf(by(s.kept.get(i)), x, y);
    }

    int teach(int form) {
        if (form < 0 || form > 5) {
            throw new IllegalArgumentException();
        }
        return ++s.taught[form];
    }

    int first(boolean order) {
        needBody();
        list();
        List<Integer> numbers = new ArrayList<>();
        for (int i = 0; i < singles.size(); i++) {
            numbers.add(i);
        }
        if (order) {
            numbers.sort((p, q) -> {
                int f = singles.get(p).form();
                int g = singles.get(q).form();
                return s.taught[f] != s.taught[g] ? s.taught[g] - s.taught[f] : f != g ? f - g : p - q;
            });
        }
        for (int k = 0; k < numbers.size(); k++) {
            if (firstWrong(by(numbers.get(k))) == NONE) {
                return k + 1;
            }
        }
        return NONE;
    }

    void box(int n) {
        if (n < 0 || n > 15) {
            throw new IllegalArgumentException();
        }
        s.box = n;
    }

    private int distance(int x, int y) {
        return s.runs.stream().mapToInt(r -> Math.abs(r.x() - x) + Math.abs(r.y() - y)).min().orElse(0);
    }

    int input(boolean asked) {
        if (s.kept.size() < 2) {
            return NONE;
        }
        List<int[]> found = new ArrayList<>();
        for (int x = 0; x <= s.box; x++) {
            for (int y = 0; y <= s.box; y++) {
                Map<Integer, Integer> groups = new HashMap<>();
                for (int m : s.kept) {
                    groups.merge(endOf(by(m), x, y), 1, Integer::sum);
                }
                int greatest = groups.values().stream().mapToInt(i -> i).max().orElse(0);
                if (asked || groups.size() > 1) {
                    found.add(new int[] {asked ? greatest : 0, distance(x, y), x, y});
                }
            }
        }
        found.sort(Arrays::compare);
        return found.isEmpty() ? NONE : 16 * found.get(0)[2] + found.get(0)[3];
    }

    private List<Integer> breaks(int number) {
        List<Integer> found = new ArrayList<>();
        for (int x = 0; x <= s.box; x++) {
            for (int y = 0; y <= s.box; y++) {
                int end = endOf(by(number), x, y);
                if (end > 2000000 || !s.law.holds(end, x, y)) {
                    found.add(16 * x + y);
                }
            }
        }
        return found;
    }

    int prove(int i, boolean first) {
        needIndex(i, s.kept.size());
        if (s.law == null) {
            throw new IllegalStateException();
        }
        List<Integer> found = breaks(s.kept.get(i));
        return !first ? found.size() : found.isEmpty() ? NONE : found.get(0);
    }

    int bar() {
        if (s.law == null) {
            throw new IllegalStateException();
        }
        int before = s.kept.size();
        s.kept.removeIf(m -> !breaks(m).isEmpty());
        s.barred += before - s.kept.size();
        return before - s.kept.size();
    }

    private boolean sameOn(List<Line> p, List<Line> q, int x, int y) {
        return endOf(p, x, y) == endOf(q, x, y);
    }

    int otherwise(int i) {
        if (i != NONE) {
            needIndex(i, s.kept.size());
        }
        if (s.body.isEmpty() || s.second.isEmpty()) {
            throw new IllegalStateException();
        }
        List<Line> program = i == NONE ? s.body : by(s.kept.get(i));
        int found = 0;
        for (int x = 0; x <= s.box; x++) {
            for (int y = 0; y <= s.box; y++) {
                found += sameOn(program, s.second, x, y) ? 0 : 1;
            }
        }
        return found;
    }

    int heaps() {
        needBody();
        list();
        List<Told> wrong = s.runs.stream().filter(r -> !right(s.body, r)).toList();
        List<Told> good = s.runs.stream().filter(r -> right(s.body, r)).toList();
        TreeSet<Integer> gains = new TreeSet<>();
        for (Mend m : singles) {
            if (good.stream().allMatch(r -> right(m.whole(), r))) {
                int gain = 0;
                for (int i = 0; i < wrong.size(); i++) {
                    gain |= right(m.whole(), wrong.get(i)) ? 1 << i : 0;
                }
                gains.add(gain);
            }
        }
        TreeSet<Integer> reached = new TreeSet<>(List.of(0));
        int all = (1 << wrong.size()) - 1;
        for (int n = 0; n <= 12; n++) {
            if (reached.contains(all)) {
                return n;
            }
            TreeSet<Integer> more = new TreeSet<>();
            for (int r : reached) {
                for (int g : gains) {
                    more.add(r | g);
                }
            }
            reached = more;
        }
        return NONE;
    }

    int putIn(int mend) {
        list();
        needIndex(mend, singles.size());
        List<Line> faulty = singles.get(mend).whole();
        List<Told> asked = s.runs.stream().filter(r -> endOf(s.body, r.x(), r.y()) < 2000000).toList();
        if (asked.stream().allMatch(r -> sameOn(faulty, s.body, r.x(), r.y()))) {
            return 3;
        }
        int found = 0;
        int good = 0;
        for (Mend m : singles(faulty)) {
            if (asked.stream().allMatch(r -> sameOn(m.whole(), s.body, r.x(), r.y()))) {
                found++;
                boolean same = true;
                for (int x = 0; x <= s.box; x++) {
                    for (int y = 0; y <= s.box; y++) {
                        same &= sameOn(m.whole(), s.body, x, y);
                    }
                }
                good += same ? 1 : 0;
            }
        }
        return good == 0 ? 0 : good == found ? 1 : 2;
    }

    int make(int i) {
        needIndex(i, s.kept.size());
        List<Line> mended = by(s.kept.get(i));
        s.made.add(s.body);
        if (s.made.size() > 6) {
            s.made.remove(0);
        }
        s.body = mended;
        anew();
        return s.made.size();
    }

    boolean takeBack() {
        if (s.made.isEmpty()) {
            return false;
        }
        s.body = s.made.remove(s.made.size() - 1);
        anew();
        return true;
    }

    int row(int i, int what) {
        if (i < 0 || i >= s.rows.size() || what < 0 || what > 1) {
            throw new NoSuchElementException();
        }
        return what == 0 ? s.rows.get(i).mend : s.rows.get(i).run;
    }

    int tear(int i, int mask) {
        if (i < 0 || i >= s.rows.size()) {
            throw new NoSuchElementException();
        }
        s.rows.get(i).run ^= mask;
        return s.rows.get(i).run;
    }

    int check() {
        for (int i = 0; i < s.rows.size(); i++) {
            if (s.rows.get(i).run != s.rows.get(i).was) {
                return i;
            }
        }
        return NONE;
    }

    void image() {
        image = s.copy();
    }

    boolean back() {
        if (image == null) {
            return false;
        }
        s = image.copy();
        return true;
    }

    int count(int what) {
        list();
        int[] all = {s.body.size(), s.runs.size(),
            s.body.isEmpty() ? 0 : (int) s.runs.stream().filter(r -> !right(s.body, r)).count(), singles.size(),
            doubles.size(), s.tried, s.kept.size(), s.aliveAll, s.pleased, s.barred, s.made.size(), s.second.size(),
            s.box};
        return what < 0 || what >= all.length ? NONE : all[what];
    }
}
