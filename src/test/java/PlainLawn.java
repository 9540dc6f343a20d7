import java.util.ArrayDeque;
import java.util.ArrayList;
import java.util.Arrays;
import java.util.Collections;
import java.util.HashMap;
import java.util.HashSet;
import java.util.List;
import java.util.Map;
import java.util.Set;
import java.util.TreeMap;

/** The document once more, as plainly as can be and without a thought for room or time: AgainstPlainTest's measure. */
final class PlainLawn {
    static final Set<String> WORDS = Set.of("row", "sign", "window", "talk", "grows", "feeds", "fines", "height",
        "rain", "seed", "if", "then", "else", "tall", "sun", "week", "wet", "food", "across", "down", "beside", "size");
    static final List<String> VARS = List.of("tall", "sun", "week", "wet", "food", "across", "down", "beside", "size");

    /** kind: n NAME, i INT, w word, s SIGN, b none, e the end. */
    record Token(char kind, String text, int place) { }

    static final class Fault extends RuntimeException {
        private static final long serialVersionUID = 1;
        final int number;
        final int place;

        Fault(int number, int place) {
            super(null, null, false, false);
            this.number = number;
            this.place = place;
        }
    }

    interface E {
        int value(Map<String, Integer> vars);
    }

    record Arm(E left, E right, E then) { }

    record Law(List<Arm> arms, E last) {
        int value(Map<String, Integer> vars) {
            try {
                for (Arm arm : arms) {
                    if (arm.left.value(vars) < arm.right.value(vars)) {
                        return arm.then.value(vars);
                    }
                }
                return last.value(vars);
            } catch (ArithmeticException byZero) {
                return 0;
            }
        }
    }

    record Sign(String name, boolean[][] x, int size) {
        boolean readable() {
            return size > 0 && size < 9;
        }
    }

    record Window(String name, int from, int to, int sharp) { }

    record Talk(int one, int other) { }

    static final class Text {
        List<String> rows = new ArrayList<>();
        List<Sign> signs = new ArrayList<>();
        List<Window> windows = new ArrayList<>();
        List<Talk> talks = new ArrayList<>();
        Law grows = new Law(List.of(), v -> v.get("sun"));
        Law feeds = new Law(List.of(), v -> 2);
        Law fines = new Law(List.of(), v -> v.get("size"));
        int height = 20;
        int often = 0;
        int much = 0;
        int seed = 0;

        int width() {
            return rows.isEmpty() ? 0 : rows.get(0).length();
        }

        boolean isCell(int x, int y) {
            return y >= 0 && y < rows.size() && x >= 0 && x < width();
        }

        boolean isGrass(int x, int y) {
            return isCell(x, y) && rows.get(y).charAt(x) != 'p';
        }

        boolean isPlace(int sign, int x, int y) {
            return sign >= 0 && sign < signs.size() && isCell(x, y) && isCell(x + 2, y + 2);
        }
    }

    static final class State {
        int week;
        int[][] high;
        int[][] food;
        Set<Talk> known = new HashSet<>(); // a window knows a sign
        int[] cuts;
        int fines;

        State copy() {
            State s = new State();
            s.week = week;
            s.high = new int[high.length][];
            s.food = new int[high.length][];
            for (int y = 0; y < high.length; y++) {
                s.high[y] = high[y].clone();
                s.food[y] = food[y].clone();
            }
            s.known = new HashSet<>(known);
            s.cuts = cuts.clone();
            s.fines = fines;
            return s;
        }
    }

    record Told(int x, int y, int high) { }

    record Blade(int sign, int x, int y, int ago, int[][] high) { }

    private final List<Integer> tape = new ArrayList<>();
    private int faultPlace = -1;
    Text text = new Text();
    private State now = begin(text);
    private final ArrayDeque<State> undos = new ArrayDeque<>();
    private State[] slots = new State[3];
    private final List<Told> told = new ArrayList<>();

    // ---- reading

    static List<Token> tokens(List<Integer> tape) {
        StringBuilder b = new StringBuilder();
        for (int i : tape) {
            b.append((char) i);
        }
        String s = b.toString();
        List<Token> found = new ArrayList<>();
        int at = 0;
        while (at < s.length()) {
            String rest = s.substring(at);
            String run = run(rest, 'a', 'z');
            String digits = run(rest, '0', '9');
            char c = s.charAt(at);
            if (c == 9 || c == 10 || c == 13 || c == 32) {
                at++;
            } else if (!run.isEmpty()) {
                char kind = run.length() > 8 ? 'b' : WORDS.contains(run) ? 'w' : 'n';
                found.add(new Token(kind, run, at));
                at += run.length();
            } else if (!digits.isEmpty()) {
                found.add(new Token(digits.length() > 4 ? 'b' : 'i', digits, at));
                at += digits.length();
            } else {
                found.add(new Token(";=+-*/<()".indexOf(c) >= 0 ? 's' : 'b', "" + c, at));
                at++;
            }
        }
        found.add(new Token('e', "", s.length()));
        return found;
    }

    private static String run(String s, char low, char high) {
        int n = 0;
        while (n < s.length() && s.charAt(n) >= low && s.charAt(n) <= high) {
            n++;
        }
        return s.substring(0, n);
    }

    static final class Parser {
        final List<Token> tokens;
        final List<List<Token>> tells = new ArrayList<>();
        final Map<Integer, Law> laws = new HashMap<>();
        int at = 0;
        int ifs = 0;

        Parser(List<Token> tokens) {
            this.tokens = tokens;
        }

        Token peek() {
            return tokens.get(at);
        }

        boolean sees(String text) {
            return (peek().kind == 'w' || peek().kind == 's') && peek().text.equals(text);
        }

        void take() {
            if (at >= 400) {
                throw new Fault(2, peek().place);
            }
            at++;
        }

        void expect(String text) {
            if (!sees(text)) {
                throw new Fault(1, peek().place);
            }
            take();
        }

        void expect(char kind) {
            if (peek().kind != kind) {
                throw new Fault(1, peek().place);
            }
            take();
        }

        void text() {
            Map<String, Integer> had = new HashMap<>();
            Map<String, Integer> most = Map.of("row", 6, "sign", 4, "window", 4, "talk", 6);
            Map<String, String> forms = Map.of("row", "n", "sign", "nnnn", "window", "niii", "talk", "nn", "height",
                "i", "rain", "ii", "seed", "i");
            while (peek().kind != 'e') {
                int first = at;
                String word = peek().kind == 'w' ? peek().text : "";
                if (forms.containsKey(word)) {
                    if (had.merge(word, 1, Integer::sum) > most.getOrDefault(word, 9999)) {
                        throw new Fault(2, peek().place);
                    }
                    take();
                    for (char kind : forms.get(word).toCharArray()) {
                        expect(kind);
                    }
                } else if (word.equals("grows") || word.equals("feeds") || word.equals("fines")) {
                    take();
                    laws.put(first, law());
                } else {
                    throw new Fault(1, peek().place);
                }
                expect(";");
                tells.add(tokens.subList(first, at));
            }
        }

        Law law() {
            expect("=");
            List<Arm> arms = new ArrayList<>();
            while (sees("if")) {
                if (arms.size() == 4) {
                    throw new Fault(2, peek().place);
                }
                take();
                E left = e(0);
                expect("<");
                E right = e(0);
                expect("then");
                E then = e(0);
                expect("else");
                arms.add(new Arm(left, right, then));
            }
            return new Law(arms, e(0));
        }

        E e(int depth) {
            E sum = part(depth);
            while (sees("+") || sees("-")) {
                boolean plus = sees("+");
                take();
                E a = sum;
                E b = part(depth);
                sum = plus ? v -> a.value(v) + b.value(v) : v -> a.value(v) - b.value(v);
            }
            return sum;
        }

        E part(int depth) {
            E product = unit(depth);
            while (sees("*") || sees("/")) {
                boolean times = sees("*");
                take();
                E a = product;
                E b = unit(depth);
                product = times ? v -> a.value(v) * b.value(v) : v -> a.value(v) / b.value(v);
            }
            return product;
        }

        E unit(int depth) {
            Token t = peek();
            if (t.kind == 'i') {
                take();
                int n = Integer.parseInt(t.text);
                return v -> n;
            }
            if (t.kind == 'w' && VARS.contains(t.text)) {
                take();
                return v -> v.getOrDefault(t.text, 0);
            }
            if (sees("(")) {
                if (depth == 6) {
                    throw new Fault(2, t.place);
                }
                take();
                E inner = e(depth + 1);
                expect(")");
                return inner;
            }
            throw new Fault(1, t.place);
        }
    }

    /** All faults 3 to 6 there are, wherever they are; the text too. */
    static Text meaning(Parser parser, List<Fault> faults) {
        Text text = new Text();
        Set<String> names = new HashSet<>();
        for (List<Token> tell : parser.tells) {
            Token one = tell.get(1);
            switch (tell.get(0).text) {
                case "row" -> {
                    if (!text.rows.isEmpty() && one.text.length() != text.width()) {
                        faults.add(new Fault(6, one.place));
                    }
                    text.rows.add(one.text);
                }
                case "sign" -> {
                    if (!names.add(one.text)) {
                        faults.add(new Fault(3, one.place));
                    }
                    boolean[][] x = new boolean[3][3];
                    int size = 0;
                    for (int r = 0; r < 3; r++) {
                        String row = tell.get(2 + r).text;
                        if (!row.matches("[xo]{3}")) {
                            faults.add(new Fault(6, tell.get(2 + r).place));
                            continue;
                        }
                        for (int c = 0; c < 3; c++) {
                            x[r][c] = row.charAt(c) == 'x';
                            size += x[r][c] ? 1 : 0;
                        }
                    }
                    text.signs.add(new Sign(one.text, x, size));
                }
                case "window" -> {
                    if (!names.add(one.text)) {
                        faults.add(new Fault(3, one.place));
                    }
                    int from = number(tell.get(2), 0, 7, faults);
                    int to = number(tell.get(3), 0, 7, faults);
                    if (to < from) {
                        faults.add(new Fault(5, tell.get(3).place));
                    }
                    text.windows.add(new Window(one.text, from, to, number(tell.get(4), 0, 99, faults)));
                }
                case "talk" -> {
                    Token two = tell.get(2);
                    int a = windowOf(text, one, faults);
                    int b = windowOf(text, two, faults);
                    if (one.text.equals(two.text) || text.talks.contains(new Talk(a, b))
                        || text.talks.contains(new Talk(b, a))) {
                        faults.add(new Fault(3, two.place));
                    }
                    text.talks.add(new Talk(a, b));
                }
                case "height" -> text.height = number(one, 0, 99, faults);
                case "rain" -> {
                    text.often = number(one, 0, 100, faults);
                    text.much = number(tell.get(2), 0, 9, faults);
                }
                case "seed" -> text.seed = number(one, 0, 9999, faults);
                default -> {
                    Law law = parser.laws.get(parser.tokens.indexOf(tell.get(0)));
                    switch (tell.get(0).text) {
                        case "grows" -> text.grows = law;
                        case "feeds" -> text.feeds = law;
                        default -> text.fines = law;
                    }
                }
            }
        }
        return text;
    }

    private static int number(Token t, int least, int most, List<Fault> faults) {
        int n = Integer.parseInt(t.text);
        if (n < least || n > most) {
            faults.add(new Fault(5, t.place));
        }
        return n;
    }

    private static int windowOf(Text text, Token name, List<Fault> faults) {
        for (int w = 0; w < text.windows.size(); w++) {
            if (text.windows.get(w).name.equals(name.text)) {
                return w;
            }
        }
        faults.add(new Fault(4, name.place));
        return -1;
    }

    int feed(int a, int b, int c, int d, int e) {
        if (tape.size() + 20 > 2000) {
            return -1;
        }
        for (int four : new int[] {a, b, c, d, e}) {
            for (byte one : java.nio.ByteBuffer.allocate(4).putInt(four).array()) {
                tape.add(Byte.toUnsignedInt(one));
            }
        }
        return tape.size();
    }

    int back(int n) {
        if (n < 0 || n > tape.size()) {
            return -1;
        }
        tape.subList(tape.size() - n, tape.size()).clear();
        return tape.size();
    }

    int read() {
        Parser parser = new Parser(tokens(tape));
        tape.clear();
        faultPlace = -1;
        try {
            parser.text();
            List<Fault> faults = new ArrayList<>();
            Text told = meaning(parser, faults);
            faults.sort((a, b) -> a.place != b.place ? a.place - b.place : a.number - b.number);
            if (!faults.isEmpty()) {
                throw faults.get(0);
            }
            text = told;
        } catch (Fault f) {
            faultPlace = f.place;
            return f.number;
        }
        now = begin(text);
        undos.clear();
        slots = new State[3];
        this.told.clear();
        return 0;
    }

    int place() {
        return faultPlace;
    }

    // ---- what happens

    static State begin(Text text) {
        State s = new State();
        s.high = new int[text.rows.size()][text.width()];
        s.food = new int[text.rows.size()][text.width()];
        for (int y = 0; y < text.rows.size(); y++) {
            for (int x = 0; x < text.width(); x++) {
                s.high[y][x] = text.isGrass(x, y) ? text.height : 0;
            }
        }
        s.cuts = new int[text.signs.size()];
        return s;
    }

    static int lot(int n, int seed, int which) {
        int h = seed;
        for (int it : new int[] {97, which}) {
            h = (h ^ it) * 1103515245 + 12345;
            h = h ^ (h >>> 15);
        }
        return (h >>> 1) % n;
    }

    int wet(int seed, int week) {
        return lot(100, seed, 4 * week) < text.often ? text.much : 0;
    }

    private static int clamp(int v, int least, int most) {
        return v < least ? least : v > most ? most : v;
    }

    private Map<String, Integer> own(State s, int x, int y) {
        Map<String, Integer> vars = new HashMap<>();
        vars.put("week", s.week);
        vars.put("tall", s.high[y][x]);
        vars.put("sun", text.rows.get(y).charAt(x) - 'a');
        vars.put("food", s.food[y][x]);
        vars.put("across", x);
        vars.put("down", y);
        return vars;
    }

    private int growth(State s, int x, int y, int wet) {
        Map<String, Integer> vars = own(s, x, y);
        int beside = 0;
        for (int[] step : new int[][] {{0, 1}, {1, 0}, {0, -1}, {-1, 0}}) {
            if (text.isCell(x + step[0], y + step[1])) {
                beside = Math.max(beside, s.high[y + step[1]][x + step[0]]);
            }
        }
        vars.put("beside", beside);
        vars.put("wet", wet);
        return clamp(text.grows.value(vars), -9, 9);
    }

    private State week(State was, int seed) {
        State s = was.copy();
        int wet = wet(seed, was.week);
        for (int y = 0; y < text.rows.size(); y++) {
            for (int x = 0; x < text.width(); x++) {
                if (text.isGrass(x, y)) {
                    s.high[y][x] = clamp(was.high[y][x] + growth(was, x, y, wet), 0, 99);
                    s.food[y][x] = Math.max(0, was.food[y][x] - 1);
                }
            }
        }
        s.week++;
        for (int w = 0; w < text.windows.size(); w++) {
            for (int g = 0; g < text.signs.size(); g++) {
                if (!where(s, w, g).isEmpty()) {
                    s.known.add(new Talk(w, g));
                }
                for (Talk t : text.talks) {
                    if (t.one == w && was.known.contains(new Talk(t.other, g))
                        || t.other == w && was.known.contains(new Talk(t.one, g))) {
                        s.known.add(new Talk(w, g));
                    }
                }
            }
        }
        return s;
    }

    private State weeks(State was, int n, int seed) {
        State s = was;
        for (int i = 0; i < n; i++) {
            s = week(s, seed);
        }
        return s;
    }

    private int out(State s, int sign, int x, int y) {
        Sign g = text.signs.get(sign);
        if (!g.readable()) {
            return -1000;
        }
        List<Integer> left = new ArrayList<>();
        List<Integer> cut = new ArrayList<>();
        for (int r = 0; r < 3; r++) {
            for (int c = 0; c < 3; c++) {
                (g.x[r][c] ? cut : left).add(s.high[y + r][x + c]);
            }
        }
        return Collections.min(left) - Collections.max(cut);
    }

    private boolean isRead(State s, int window, int sign, int x, int y) {
        Window w = text.windows.get(window);
        return text.signs.get(sign).readable() && x >= w.from && x <= w.to && x + 2 >= w.from && x + 2 <= w.to
            && out(s, sign, x, y) >= w.sharp;
    }

    private List<Integer> where(State s, int window, int sign) {
        List<Integer> found = new ArrayList<>();
        for (int y = 0; y < text.rows.size(); y++) {
            for (int x = 0; x < text.width(); x++) {
                if (text.isPlace(sign, x, y) && isRead(s, window, sign, x, y)) {
                    found.add(10 * y + x);
                }
            }
        }
        return found;
    }

    private boolean someone(State s, int sign, int x, int y) {
        for (int w = 0; w < text.windows.size(); w++) {
            if (isRead(s, w, sign, x, y)) {
                return true;
            }
        }
        return false;
    }

    private boolean anything(State s) {
        for (int w = 0; w < text.windows.size(); w++) {
            for (int g = 0; g < text.signs.size(); g++) {
                if (!where(s, w, g).isEmpty()) {
                    return true;
                }
            }
        }
        return false;
    }

    private State cutAt(State was, int sign, int x, int y) {
        State s = was.copy();
        for (int r = 0; r < 3; r++) {
            for (int c = 0; c < 3; c++) {
                if (text.signs.get(sign).x[r][c]) {
                    s.high[y + r][x + c] = 0;
                }
            }
        }
        return s;
    }

    private State fed(State was, int x, int y) {
        State s = was.copy();
        s.food[y][x] = Math.min(99, s.food[y][x] + clamp(text.feeds.value(own(was, x, y)), 0, 9));
        return s;
    }

    private State mown(State was, int h) {
        State s = was.copy();
        for (int[] row : s.high) {
            for (int x = 0; x < row.length; x++) {
                row[x] = Math.min(row[x], h);
            }
        }
        return s;
    }

    private void done(State next) {
        undos.addLast(now);
        if (undos.size() > 30) {
            undos.removeFirst();
        }
        now = next;
    }

    private boolean isSign(int sign) {
        return sign >= 0 && sign < text.signs.size();
    }

    private boolean isWindow(int window) {
        return window >= 0 && window < text.windows.size();
    }

    // ---- the face

    int cell(int x, int y, int what) {
        if (!text.isCell(x, y)) {
            return -100;
        }
        boolean grass = text.isGrass(x, y);
        return switch (what) {
            case 0 -> now.high[y][x];
            case 1 -> grass ? text.rows.get(y).charAt(x) - 'a' : -2;
            case 2 -> now.food[y][x];
            case 3 -> grass ? growth(now, x, y, 0) : 0;
            default -> -100;
        };
    }

    int sign(int sign, int what) {
        if (!isSign(sign) || what < 0 || what > 2) {
            return -1;
        }
        if (what == 0) {
            return text.signs.get(sign).size;
        }
        int bits = 0;
        for (Talk k : now.known) {
            bits += k.other == sign ? 1 << k.one : 0;
        }
        return what == 1 ? bits : now.cuts[sign];
    }

    int window(int window, int what) {
        if (!isWindow(window) || what < 0 || what > 4) {
            return -1;
        }
        Window w = text.windows.get(window);
        int bits = 0;
        if (what == 3) {
            for (Talk k : now.known) {
                bits += k.one == window ? 1 << k.other : 0;
            }
        }
        if (what == 4) {
            for (Talk t : text.talks) {
                bits += t.one == window ? 1 << t.other : t.other == window ? 1 << t.one : 0;
            }
        }
        return what == 0 ? w.from : what == 1 ? w.to : what == 2 ? w.sharp : bits;
    }

    int contrast(int sign, int x, int y) {
        return text.isPlace(sign, x, y) ? out(now, sign, x, y) : -2000;
    }

    int reads(int window, int sign, int i) {
        if (!isWindow(window) || !isSign(sign) || i < -1) {
            return -1;
        }
        List<Integer> found = where(now, window, sign);
        return i == -1 ? found.size() : i < found.size() ? found.get(i) : -1;
    }

    int cut(int sign, int x, int y) {
        if (!text.isPlace(sign, x, y)) {
            return -1;
        }
        Map<String, Integer> vars = new HashMap<>();
        vars.put("week", now.week);
        vars.put("size", text.signs.get(sign).size);
        vars.put("across", x);
        vars.put("down", y);
        int fine = clamp(text.fines.value(vars), 0, 99);
        done(cutAt(now, sign, x, y));
        now.fines += fine;
        now.cuts[sign]++;
        return fine;
    }

    int graze(int x, int y) {
        if (!text.isGrass(x, y)) {
            return text.isCell(x, y) ? -2 : -1;
        }
        int was = now.high[y][x];
        done(now.copy());
        now.high[y][x] = 0;
        return was;
    }

    int nourish(int x, int y) {
        if (!text.isGrass(x, y)) {
            return text.isCell(x, y) ? -2 : -1;
        }
        done(fed(now, x, y));
        return now.food[y][x];
    }

    int mow(int height) {
        if (height < 0 || height > 99) {
            return -1;
        }
        int taller = 0;
        for (int[] row : now.high) {
            for (int h : row) {
                taller += h > height ? 1 : 0;
            }
        }
        done(mown(now, height));
        return taller;
    }

    int weeks(int n) {
        if (n < 0 || n > 60) {
            return -1;
        }
        if (n > 0) {
            done(weeks(now, n, text.seed));
        }
        return now.week;
    }

    boolean undo() {
        if (undos.isEmpty()) {
            return false;
        }
        now = undos.removeLast();
        return true;
    }

    int best(int sign, int what) {
        if (!text.isPlace(sign, 0, 0) || what < 0 || what > 2) {
            return -2000;
        }
        int[] best = null;
        for (int y = 0; y < text.rows.size(); y++) {
            for (int x = 0; x < text.width(); x++) {
                if (text.isPlace(sign, x, y) && (best == null || out(now, sign, x, y) > best[0])) {
                    best = new int[] {out(now, sign, x, y), x, y};
                }
            }
        }
        return best[what];
    }

    private int goneFrom(State s, int sign, int x, int y) {
        State at = s;
        for (int w = 0; w <= 99; w++) {
            if (!someone(at, sign, x, y)) {
                return w;
            }
            at = week(at, text.seed);
        }
        return 1000;
    }

    int gone(int sign, int x, int y) {
        if (!text.isPlace(sign, x, y)) {
            return -1;
        }
        int w = goneFrom(now, sign, x, y);
        return w == 1000 ? -2 : w;
    }

    int when(int sign, int x, int y, int d, int e) {
        if (!text.isPlace(sign, x, y) || d < 0 || d >= e || e > 60) {
            return -1;
        }
        for (int w = 0; w <= d; w++) {
            State cut = cutAt(weeks(now, w, text.seed), sign, x, y);
            if (someone(weeks(cut, d - w, text.seed), sign, x, y)
                && !someone(weeks(cut, e - w, text.seed), sign, x, y)) {
                return w;
            }
        }
        return -2;
    }

    /** Tries every set of cells on the whole of the sign's nine. */
    int cuts(int window, int sign, int x, int y) {
        if (!isWindow(window) || !text.isPlace(sign, x, y)) {
            return -1;
        }
        int fewest = 10;
        for (int set = 0; set < 512; set++) {
            State s = now.copy();
            boolean grass = true;
            for (int i = 0; i < 9; i++) {
                if ((set >> i & 1) == 1) {
                    grass &= text.isGrass(x + i % 3, y + i / 3);
                    s.high[y + i / 3][x + i % 3] = 0;
                }
            }
            if (grass && isRead(s, window, sign, x, y)) {
                fewest = Math.min(fewest, Integer.bitCount(set));
            }
        }
        return fewest == 10 ? -2 : fewest;
    }

    int care(int sign, int x, int y) {
        if (!text.isPlace(sign, x, y)) {
            return -1;
        }
        int asItIs = goneFrom(now, sign, x, y);
        TreeMap<Integer, Integer> found = new TreeMap<>();
        for (int cy = 0; cy < text.rows.size(); cy++) {
            for (int cx = 0; cx < text.width(); cx++) {
                if (text.isGrass(cx, cy)) {
                    found.putIfAbsent(goneFrom(fed(now, cx, cy), sign, x, y), 10 * cy + cx);
                }
            }
        }
        return found.isEmpty() || found.lastKey() <= asItIs ? -2 : found.lastEntry().getValue();
    }

    int level() {
        int greatest = -2;
        for (int h = 0; h <= 99; h++) {
            if (!anything(mown(now, h))) {
                greatest = h;
            }
        }
        return greatest;
    }

    int quiet() {
        for (int w = 0; w <= 200; w++) {
            if (!anything(weeksOn(w))) {
                return w;
            }
        }
        return -2;
    }

    private final List<State> coming = new ArrayList<>();

    /** now, and the weeks that come; kept as long as now is the same. */
    private State weeksOn(int n) {
        if (coming.isEmpty() || coming.get(0) != now) {
            coming.clear();
            coming.add(now);
        }
        while (coming.size() <= n) {
            coming.add(week(coming.get(coming.size() - 1), text.seed));
        }
        return coming.get(n);
    }

    int knows(int window, int sign) {
        if (!isWindow(window) || !isSign(sign)) {
            return -1;
        }
        for (int w = 0; w <= 200; w++) {
            if (weeksOn(w).known.contains(new Talk(window, sign))) {
                return w;
            }
        }
        return -2;
    }

    int then(int x, int y, int n) {
        return !text.isCell(x, y) || n < 0 || n > 60 ? -1 : weeksOn(n).high[y][x];
    }

    int all(int n, int what, int h) {
        if (n < 0 || n > 60 || what < 0 || what > 3 || what == 3 && (h < 0 || h > 99)) {
            return -1;
        }
        State s = weeksOn(n);
        int most = -2;
        int where = -2;
        int sum = 0;
        int count = 0;
        for (int y = 0; y < text.rows.size(); y++) {
            for (int x = 0; x < text.width(); x++) {
                int high = s.high[y][x];
                where = high > most ? 10 * y + x : where;
                most = Math.max(most, high);
                sum += high;
                count += text.isGrass(x, y) && high >= h ? 1 : 0;
            }
        }
        return new int[] {most, where, sum, count}[what];
    }

    int year(int window, int sign, int n, int s) {
        if (!isWindow(window) || !isSign(sign) || n < 0 || n > 60 || s < 1 || s > 20) {
            return -1;
        }
        int count = 0;
        for (int seed = text.seed; seed < text.seed + s; seed++) {
            count += where(weeks(now, n, seed), window, sign).isEmpty() ? 0 : 1;
        }
        return count;
    }

    int tell(int x, int y, int high) {
        if (told.size() == 20 || !text.isCell(x, y) || high < 0 || high > 99) {
            return -1;
        }
        told.add(new Told(x, y, high));
        return told.size() - 1;
    }

    int forget() {
        int had = told.size();
        told.clear();
        return had;
    }

    private List<Blade> blading(int k) {
        List<Blade> found = new ArrayList<>();
        for (int ago = 0; ago <= 30 && ago <= now.week; ago++) {
            State then = weeks(begin(text), now.week - ago, text.seed);
            for (int g = 0; g < text.signs.size(); g++) {
                for (int y = 0; y < text.rows.size(); y++) {
                    for (int x = 0; x < text.width(); x++) {
                        if (text.isPlace(g, x, y)) {
                            int[][] high = weeks(cutAt(then, g, x, y), ago, text.seed).high;
                            if (told.subList(0, k).stream().allMatch(t -> high[t.y][t.x] == t.high)) {
                                found.add(new Blade(g, x, y, ago, high));
                            }
                        }
                    }
                }
            }
        }
        return found;
    }

    int blades(int k) {
        return k < 0 || k > told.size() ? -1 : blading(k).size();
    }

    int sure(int k, int what) {
        if (k < 0 || k > told.size() || what < 0 || what > 3) {
            return -1;
        }
        Set<Integer> values = new HashSet<>();
        for (Blade b : blading(k)) {
            values.add(new int[] {b.sign, b.x, b.y, b.ago}[what]);
        }
        return values.size() == 1 ? values.iterator().next() : -2;
    }

    int ask(int k) {
        if (k < 0 || k > told.size()) {
            return -1;
        }
        List<Blade> blades = blading(k);
        int where = -2;
        int fewest = Integer.MAX_VALUE;
        for (int y = 0; y < text.rows.size() && !blades.isEmpty(); y++) {
            for (int x = 0; x < text.width(); x++) {
                Map<Integer, Integer> left = new HashMap<>();
                for (Blade b : blades) {
                    left.merge(b.high[y][x], 1, Integer::sum);
                }
                int worst = Collections.max(left.values());
                if (worst < fewest) {
                    fewest = worst;
                    where = 10 * y + x;
                }
            }
        }
        return where;
    }

    boolean hold(int slot) {
        if (slot < 0 || slot > 2) {
            return false;
        }
        slots[slot] = now.copy();
        return true;
    }

    boolean restore(int slot) {
        if (slot < 0 || slot > 2 || slots[slot] == null) {
            return false;
        }
        now = slots[slot].copy();
        undos.clear();
        return true;
    }

    int count(int what) {
        int held = 0;
        for (State s : slots) {
            held += s == null ? 0 : 1;
        }
        int grass = 0;
        for (String row : text.rows) {
            grass += row.replace("p", "").length();
        }
        int[] counts = {text.width(), text.rows.size(), text.signs.size(), text.windows.size(), now.week, now.fines,
            Arrays.stream(now.cuts).sum(), wet(text.seed, now.week), tape.size(), undos.size(), told.size(), held,
            grass, text.talks.size()};
        return what < 0 || what >= counts.length ? -1 : counts[what];
    }
}
