import java.io.IOException;
import java.nio.file.Files;
import java.nio.file.Path;
import java.util.ArrayList;
import java.util.HashMap;
import java.util.HashSet;
import java.util.List;
import java.util.Map;
import java.util.Random;
import java.util.Set;
import java.util.regex.Matcher;
import java.util.regex.Pattern;

/**
 * Promises 4 and 5 by the grammar that stands in ../shared/DOC.md, taken from there as the test runs: texts are drawn
 * from it, spoiled or not, and every fault is looked for by its own sentence, without a reader like the program's.
 * Arguments: first seed, how many texts.
 */
public final class GrammarTest {
    /** kind: t a terminal, r a rule's name, s one after the other, a one of them, m none or more. */
    private record Node(char kind, String word, List<Node> parts) { }

    /** What must come, the next one on top. */
    private record Ahead(Node next, Ahead then) { }

    private record Token(String kind, String text, int place) { }

    private record Fault(int number, int place) { }

    private static final Map<String, Node> RULES = new HashMap<>();
    private static final Set<String> WORDS = new HashSet<>();
    private static final Map<String, Integer> MOST = Map.of("row", 6, "sign", 4, "window", 4, "talk", 6);
    private static final Ahead END = new Ahead(null, null);

    private final Random random;
    private final List<String> windows = new ArrayList<>();
    private final Map<String, Integer> told = new HashMap<>();

    private GrammarTest(long seed) {
        random = new Random(seed * 0x9E3779B97F4A7C15L);
    }

    public static void main(String[] args) throws IOException {
        takeGrammar(Files.readString(Path.of("../shared/DOC.md")));
        Check.due("rules of the grammar " + RULES.keySet(), RULES.size(), 7);
        Check.due("words of the grammar " + WORDS, WORDS.size(), 22);
        long first = args.length > 0 ? Long.parseLong(args[0]) : 1;
        int texts = args.length > 1 ? Integer.parseInt(args[1]) : 20000;
        int[] met = new int[7];
        for (long seed = first; seed < first + texts; seed++) {
            String text = new GrammarTest(seed).text();
            Fault due = faultOf(text);
            met[due.number]++;
            MownLawn lawn = new MownLawn();
            Check.feed(lawn, text);
            Check.due("seed " + seed + ": read() of " + text, lawn.read(), due.number);
            Check.due("seed " + seed + ": place() of " + text, lawn.place(), due.place);
        }
        StringBuilder line = new StringBuilder("texts read, by fault 0 to 6:");
        for (int number : met) {
            line.append(' ').append(number);
            Check.due("each is met, as one in 200 texts or more", number * 200 >= texts, true);
        }
        System.out.println(line);
        Check.end();
    }

    // ---- the document's grammar

    private static void takeGrammar(String document) {
        int from = document.indexOf("text: {TELL}.");
        String rules = document.substring(from, document.indexOf('\n', from));
        Matcher m = Pattern.compile("'[^']+'|\\w+|[:.|(){}]").matcher(rules);
        List<String> signs = new ArrayList<>();
        while (m.find()) {
            signs.add(m.group());
            if (m.group().matches("'[a-z]+'")) {
                WORDS.add(m.group().substring(1, m.group().length() - 1));
            }
        }
        while (!signs.isEmpty()) {
            String name = signs.remove(0);
            Check.due(name + " is told by", signs.remove(0).equals(":"), true);
            RULES.put(name, alternatives(signs));
            Check.due(name + " ends", signs.remove(0).equals("."), true);
        }
    }

    private static Node alternatives(List<String> signs) {
        List<Node> parts = new ArrayList<>();
        do {
            if (!parts.isEmpty()) {
                signs.remove(0);
            }
            parts.add(sequence(signs));
        } while (signs.get(0).equals("|"));
        return new Node('a', "", parts);
    }

    private static Node sequence(List<String> signs) {
        List<Node> parts = new ArrayList<>();
        while (!signs.get(0).matches("[.|)}]")) {
            String sign = signs.remove(0);
            if (sign.equals("(") || sign.equals("{")) {
                Node inner = alternatives(signs);
                signs.remove(0);
                parts.add(sign.equals("(") ? inner : new Node('m', "", List.of(inner)));
            } else if (sign.startsWith("'")) {
                parts.add(new Node('t', sign.substring(1, sign.length() - 1), List.of()));
            } else {
                parts.add(new Node(sign.equals("NAME") || sign.equals("INT") ? 't' : 'r', sign, List.of()));
            }
        }
        return new Node('s', "", parts);
    }

    /** All that can come next: terminals on top, or END. */
    private static void spread(Ahead ahead, List<Ahead> found) {
        if (ahead == END || ahead.next.kind == 't') {
            found.add(ahead);
            return;
        }
        Node next = ahead.next;
        switch (next.kind) {
            case 'r' -> spread(new Ahead(RULES.get(next.word), ahead.then), found);
            case 'a' -> next.parts.forEach(part -> spread(new Ahead(part, ahead.then), found));
            case 'm' -> {
                spread(ahead.then, found);
                spread(new Ahead(next.parts.get(0), ahead), found);
            }
            default -> {
                Ahead all = ahead.then;
                for (int i = next.parts.size() - 1; i >= 0; i--) {
                    all = new Ahead(next.parts.get(i), all);
                }
                spread(all, found);
            }
        }
    }

    private static List<Ahead> past(List<Ahead> heads, Token token) {
        List<Ahead> found = new ArrayList<>();
        for (Ahead head : heads) {
            if (head != END && head.next.word.equals(token.kind)) {
                spread(head.then, found);
            }
        }
        return found;
    }

    // ---- faults, each by its sentence

    private static List<Token> tokens(String text) {
        List<Token> found = new ArrayList<>();
        Matcher m = Pattern.compile("[\\t\\n\\r ]+|[a-z]+|[0-9]+|.", Pattern.DOTALL).matcher(text);
        while (m.find()) {
            String one = m.group();
            if (one.matches("[a-z]+")) {
                found.add(new Token(WORDS.contains(one) ? one : one.length() <= 8 ? "NAME" : "none", one, m.start()));
            } else if (one.matches("[0-9]+")) {
                found.add(new Token(one.length() <= 4 ? "INT" : "none", one, m.start()));
            } else if (!one.matches("[\\t\\n\\r ]+")) {
                found.add(new Token(one, one, m.start()));
            }
        }
        return found;
    }

    private static Fault faultOf(String text) {
        List<Token> tokens = tokens(text);
        List<Ahead> heads = new ArrayList<>();
        spread(new Ahead(RULES.get("text"), END), heads);
        Map<String, Integer> had = new HashMap<>();
        for (int i = 0; i < tokens.size(); i++) {
            Token token = tokens.get(i);
            heads = past(heads, token);
            if (heads.isEmpty()) {
                return new Fault(1, token.place);
            }
            if (i >= 400 || isTooMuch(token, had)) {
                return new Fault(2, token.place);
            }
        }
        return heads.contains(END) ? faultOfSense(tokens) : new Fault(1, text.length());
    }

    private static boolean isTooMuch(Token token, Map<String, Integer> had) {
        if (token.text.equals(")")) {
            had.merge("(", -1, Integer::sum);
        }
        if (token.text.equals("=")) {
            had.put("if", 0);
        }
        int most = token.text.equals("if") ? 4 : token.text.equals("(") ? 6 : MOST.getOrDefault(token.kind, 1000);
        return had.merge(token.text, 1, Integer::sum) > most;
    }

    private static Fault faultOfSense(List<Token> tokens) {
        List<Fault> faults = new ArrayList<>();
        Map<String, String> sorts = new HashMap<>();
        Set<Set<String>> talks = new HashSet<>();
        int width = -1;
        for (int i = 0; i < tokens.size(); i++) {
            Token token = tokens.get(i);
            Token next = i + 1 < tokens.size() ? tokens.get(i + 1) : token;
            switch (token.kind) {
                case "row" -> {
                    width = width < 0 ? next.text.length() : width;
                    blameIf(next.text.length() != width, 6, next, faults);
                }
                case "sign" -> {
                    blameIf(sorts.putIfAbsent(next.text, "sign") != null, 3, next, faults);
                    for (int row = 2; row < 5; row++) {
                        blameIf(!tokens.get(i + row).text.matches("[xo][xo][xo]"), 6, tokens.get(i + row), faults);
                    }
                }
                case "window" -> {
                    blameIf(sorts.putIfAbsent(next.text, "window") != null, 3, next, faults);
                    blameUnless(tokens.get(i + 2), 0, 7, faults);
                    blameUnless(tokens.get(i + 3), Integer.parseInt(tokens.get(i + 2).text), 7, faults);
                    blameUnless(tokens.get(i + 4), 0, 99, faults);
                }
                case "talk" -> {
                    Token second = tokens.get(i + 2);
                    Set<String> both = new HashSet<>(List.of(next.text, second.text));
                    blameIf(!"window".equals(sorts.get(next.text)), 4, next, faults);
                    blameIf(!"window".equals(sorts.get(second.text)), 4, second, faults);
                    blameIf(both.size() == 1 || !talks.add(both), 3, second, faults);
                }
                case "height" -> blameUnless(next, 0, 99, faults);
                case "rain" -> {
                    blameUnless(next, 0, 100, faults);
                    blameUnless(tokens.get(i + 2), 0, 9, faults);
                }
                default -> { }
            }
        }
        Fault first = new Fault(0, -1);
        for (Fault one : faults) {
            if (first.number == 0 || one.place < first.place || one.place == first.place && one.number < first.number) {
                first = one;
            }
        }
        return first;
    }

    private static void blameIf(boolean wrong, int number, Token token, List<Fault> faults) {
        if (wrong) {
            faults.add(new Fault(number, token.place));
        }
    }

    private static void blameUnless(Token token, int least, int most, List<Fault> faults) {
        int number = Integer.parseInt(token.text);
        blameIf(number < least || number > most, 5, token, faults);
    }

    // ---- texts

    private boolean chance(int percent) {
        return random.nextInt(100) < percent;
    }

    private String pick(String... of) {
        return of[random.nextInt(of.length)];
    }

    private String text() {
        List<String> words = new ArrayList<>();
        int tells = chance(15) ? 60 + random.nextInt(60) : random.nextInt(24);
        for (int i = 0; i < tells; i++) {
            List<String> tell = new ArrayList<>();
            draw(new Node('r', "TELL", List.of()), tell, 0);
            // Few texts would come to their end if the limits were not looked at.
            if (told.merge(tell.get(0), 1, Integer::sum) <= MOST.getOrDefault(tell.get(0), 1000) || chance(2)) {
                words.addAll(chance(97) ? withSense(tell) : tell);
            }
        }
        for (int times = chance(40) ? 0 : 1 + random.nextInt(3); times > 0 && !words.isEmpty(); times--) {
            spoil(words);
        }
        String text = joined(words);
        if (chance(5) && !text.isEmpty()) {
            int at = random.nextInt(text.length());
            text = text.substring(0, at) + (char) random.nextInt(256) + text.substring(at + random.nextInt(2));
        }
        return text.substring(0, Math.min(2000, chance(4) ? random.nextInt(text.length() + 1) : text.length()));
    }

    private void draw(Node node, List<String> words, int depth) {
        switch (node.kind) {
            case 't' -> words.add(node.word.equals("NAME") ? pick("w", "v", "s", "xox", "ccc", "p", "abcdefgh")
                : node.word.equals("INT") ? "" + random.nextInt(chance(80) ? 10 : 10000) : node.word);
            case 'r' -> draw(RULES.get(node.word), words, depth + (node.word.equals("E") ? 1 : 0));
            case 'a' -> draw(node.parts.get(random.nextInt(depth > 7 ? Math.min(2, node.parts.size()) : node.parts.size())),
                words, depth);
            case 'm' -> {
                for (int more = 0; more < 6 && chance(depth == 0 ? 60 : 35); more++) {
                    draw(node.parts.get(0), words, depth);
                }
            }
            default -> node.parts.forEach(part -> draw(part, words, depth));
        }
    }

    /** A TELL's NAMES and INTS in place of those that the grammar alone would let be. */
    private List<String> withSense(List<String> tell) {
        switch (tell.get(0)) {
            case "row":
                return List.of("row", pick("ccc", "abc", "pzp", "xox"), ";");
            case "sign":
                return List.of("sign", fresh(), pick("xox", "ooo"), pick("oxo", "xxx"), pick("oox", "ooo"), ";");
            case "window":
                int from = random.nextInt(8);
                windows.add(fresh());
                return List.of("window", windows.get(windows.size() - 1), "" + from, "" + (from + random.nextInt(8 - from)),
                    "" + random.nextInt(100), ";");
            case "talk":
                int size = windows.size();
                if (size < 2) {
                    return List.of();
                }
                int one = random.nextInt(size);
                int other = chance(5) ? one : (one + 1 + random.nextInt(size - 1)) % size;
                return List.of("talk", windows.get(one), windows.get(other), ";");
            case "height":
                return List.of("height", "" + random.nextInt(100), ";");
            case "rain":
                return List.of("rain", "" + random.nextInt(101), "0" + random.nextInt(10), ";");
            default:
                return tell;
        }
    }

    private String fresh() {
        return chance(2) ? "w" : "n" + (char) ('a' + random.nextInt(26)) + (char) ('a' + random.nextInt(26));
    }

    private void spoil(List<String> words) {
        int at = random.nextInt(words.size());
        String other = words.get(random.nextInt(words.size()));
        switch (chance(30) ? 4 : random.nextInt(6)) {
            case 0 -> words.remove(at);
            case 1 -> words.add(at, other);
            case 2 -> words.set(at, other);
            case 3 -> words.add(at, pick("(", "if", ")", "<", "then", "else", ";", "=", "row", "tall", "12345", "abcdefghi",
                "?"));
            case 4 -> words.set(at,
                words.get(at).matches("[0-9]+") ? pick("7", "8", "9", "10", "99", "100", "101") : words.get(at));
            default -> words.set(at, words.get(at).matches("[a-z]+") ? pick("w", "xx", "xoxo", "xyx", "s") : words.get(at));
        }
    }

    private String joined(List<String> words) {
        StringBuilder text = new StringBuilder();
        for (String word : words) {
            char last = text.length() > 0 ? text.charAt(text.length() - 1) : ' ';
            boolean runsOn = word.matches("[a-z]+") && last >= 'a' && last <= 'z'
                || word.matches("[0-9]+") && last >= '0' && last <= '9';
            boolean apart = runsOn && !chance(1) || chance(30);
            text.append(apart ? pick(" ", "\n", "\t", "\r", "  ") : "").append(word);
        }
        return text.append(chance(20) ? "  " : "").toString();
    }
}
