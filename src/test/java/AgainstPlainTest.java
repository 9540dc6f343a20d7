import java.util.ArrayList;
import java.util.List;
import java.util.Random;

/** Runs of calls drawn by fixed seeds: MownLawn and PlainLawn answer alike. Arguments: first seed, how many runs. */
public final class AgainstPlainTest {
    private final Random random;
    private final MownLawn lawn = new MownLawn();
    private final PlainLawn plain = new PlainLawn();
    private final StringBuilder story = new StringBuilder();
    private final boolean big;
    private int callsMade;
    private int[] lastCut = new int[3];

    private AgainstPlainTest(long seed, boolean big) {
        // Random's first draws are alike for seeds that are near.
        random = new Random(seed * 0x9E3779B97F4A7C15L);
        this.big = big;
    }

    public static void main(String[] args) {
        long first = args.length > 0 ? Long.parseLong(args[0]) : 1;
        int runs = args.length > 1 ? Integer.parseInt(args[1]) : 1500;
        int wrong = 0;
        int[] faults = new int[7];
        for (long seed = first; seed < first + runs; seed++) {
            AgainstPlainTest run = new AgainstPlainTest(seed, seed % 50 == 0);
            if (!run.whole(faults)) {
                wrong++;
                System.out.println("seed " + seed + ":\n" + run.story);
            }
        }
        StringBuilder met = new StringBuilder("texts read, by fault 0 to 6:");
        for (int f : faults) {
            met.append(' ').append(f);
        }
        System.out.println(met);
        if (wrong != 0) {
            System.exit(1);
        }
    }

    private boolean whole(int[] faults) {
        int texts = 1 + random.nextInt(4);
        for (int t = 0; t < texts; t++) {
            String text = chance(30) ? spoiled(text()) : text();
            if (!told(text)) {
                return false;
            }
            int fault = lawn.read();
            faults[fault]++;
            if (!same("read() of " + text, fault, plain.read()) || !same("place()", lawn.place(), plain.place())) {
                return false;
            }
            int calls = random.nextInt(big ? 25 : 90);
            for (int c = 0; c < calls && callsMade < 500; c++) {
                if (!call()) {
                    return false;
                }
            }
        }
        return true;
    }

    private boolean told(String text) {
        String padded = text + " ".repeat((20 - text.length() % 20) % 20);
        for (int at = 0; at < padded.length(); at += 20) {
            int[] five = new int[5];
            for (int i = 0; i < 20; i++) {
                five[i / 4] = five[i / 4] << 8 | padded.charAt(at + i);
            }
            if (!same("feed", lawn.feed(five[0], five[1], five[2], five[3], five[4]),
                plain.feed(five[0], five[1], five[2], five[3], five[4]))) {
                return false;
            }
        }
        int over = padded.length() - text.length();
        return same("back(" + over + ")", lawn.back(over), plain.back(over));
    }

    private boolean same(String call, int got, int due) {
        callsMade++;
        story.append(call).append(" -> ").append(got).append('\n');
        if (got != due) {
            story.append("   due is ").append(due).append('\n');
        }
        return got == due;
    }

    private boolean chance(int percent) {
        return random.nextInt(100) < percent;
    }

    private int pick(int... of) {
        return of[random.nextInt(of.length)];
    }

    // ---- texts

    private String text() {
        List<String> tells = new ArrayList<>();
        int width = big ? 5 + random.nextInt(4) : chance(85) ? 3 + random.nextInt(3) : 1 + random.nextInt(8);
        int rows = big ? 4 + random.nextInt(3) : chance(85) ? 3 + random.nextInt(2) : random.nextInt(7);
        for (int r = 0; r < rows; r++) {
            StringBuilder row = new StringBuilder();
            do {
                row.setLength(0);
                for (int x = 0; x < width; x++) {
                    row.append(chance(10) ? 'p' : (char) ('a' + random.nextInt(chance(20) ? 26 : 6)));
                }
            } while (PlainLawn.WORDS.contains(row.toString()));
            tells.add("row " + row + ";");
        }
        int signs = chance(90) ? 1 + random.nextInt(big ? 3 : 2) : random.nextInt(5);
        for (int s = 0; s < signs; s++) {
            tells.add("sign " + (char) ('a' + s) + "s " + signRow() + ' ' + signRow() + ' ' + signRow() + ";");
        }
        int windows = chance(90) ? 1 + random.nextInt(3) : random.nextInt(5);
        for (int w = 0; w < windows; w++) {
            int from = chance(80) ? 0 : random.nextInt(8);
            int to = chance(50) ? 7 : from + random.nextInt(8 - from);
            tells.add("window " + (char) ('a' + w) + "w " + from + ' ' + to + ' ' + random.nextInt(pick(2, 4, 8, 12, 20, 100))
                + ";");
        }
        for (int one = 0; one < windows; one++) {
            for (int other = 0; other < one; other++) {
                if (chance(50)) {
                    tells.add("talk " + (char) ('a' + one) + "w " + (char) ('a' + other) + "w;");
                }
            }
        }
        if (chance(80)) {
            tells.add("grows = " + growthLaw() + ";");
        }
        if (chance(40)) {
            tells.add("feeds = " + law() + ";");
        }
        if (chance(40)) {
            tells.add("fines = " + law() + ";");
        }
        if (chance(60)) {
            tells.add("height " + random.nextInt(pick(10, 30, 30, 40, 100)) + ";");
        }
        if (chance(50)) {
            tells.add("rain " + pick(0, 20, 50, 80, 100) + " " + random.nextInt(10) + ";");
        }
        if (chance(50)) {
            tells.add("seed " + random.nextInt(pick(10, 10000)) + ";");
        }
        for (int i = 0; i < 3; i++) {
            String moved = tells.isEmpty() || !chance(30) ? "" : tells.remove(random.nextInt(tells.size()));
            // A TALK may not stand ahead of its windows.
            tells.add(moved.startsWith("talk") ? tells.size() : moved.startsWith("window") ? 0
                : random.nextInt(tells.size() + 1), moved);
        }
        return String.join(pick(0, 1) == 0 ? " " : "\n", tells);
    }

    private String signRow() {
        StringBuilder row = new StringBuilder();
        int cut = pick(0, 20, 35, 60);
        for (int i = 0; i < 3; i++) {
            row.append(chance(cut) ? 'x' : 'o');
        }
        return row.toString();
    }

    /** Laws by which signs last and go, as chance alone seldom makes them. */
    private String growthLaw() {
        String small = "" + random.nextInt(4);
        String tall = "" + (5 + random.nextInt(30));
        switch (random.nextInt(9)) {
            case 0:
                return "if tall < " + tall + " then " + small + " + food else 0";
            case 1:
                return "if food < 1 then 0 - " + small + " else " + random.nextInt(4);
            case 2:
                return "if " + tall + " < tall then 0 else if food < 1 then " + random.nextInt(3) + " - 1 else 9";
            case 3:
                return "if tall < beside then " + small + " + wet else 0 - food";
            case 4:
                return "(beside - tall) / " + (2 + random.nextInt(6)) + " + food / 2";
            case 5:
                return "if tall < " + tall + " then (" + tall + " - tall) / 4 + wet + food else 0 - wet";
            case 6:
                return "if beside < " + tall + " then sun - food else food - " + small;
            case 7:
                return "if tall < 5 then food - 1 else 0 - (week + across) / (5 + food)";
            default:
                return law();
        }
    }

    private String law() {
        StringBuilder law = new StringBuilder();
        int ifs = chance(60) ? 0 : random.nextInt(4);
        for (int i = 0; i < ifs; i++) {
            law.append("if ").append(sum(1)).append(" < ").append(sum(1)).append(" then ").append(sum(1))
                .append(" else ");
        }
        return law.append(sum(2)).toString();
    }

    private String sum(int depth) {
        StringBuilder sum = new StringBuilder(unit(depth));
        for (int more = pick(0, 0, 1, 1, 2); more > 0; more--) {
            sum.append(pick(0, 1) == 0 ? "" : " ").append("+-*/+-".charAt(random.nextInt(6))).append(' ')
                .append(unit(depth));
        }
        return sum.toString();
    }

    private String unit(int depth) {
        if (depth > 0 && chance(20)) {
            return "(" + sum(depth - 1) + ")";
        }
        if (chance(40)) {
            return "" + random.nextInt(pick(3, 10, 30, 10000));
        }
        return PlainLawn.VARS.get(random.nextInt(chance(90) ? 8 : 9));
    }

    private String spoiled(String text) {
        String s = text;
        for (int times = pick(1, 1, 1, 2, 3); times > 0; times--) {
            s = spoiledOnce(s);
        }
        return s;
    }

    /** Another INT, NAME or TELL in place of one, so that the grammar still holds. */
    private String spoiledInSense(String s) {
        String[] parts = s.split("(?<=\\s)|(?=\\s)|(?=;)");
        for (int tries = 0; tries < 200; tries++) {
            int at = random.nextInt(parts.length);
            String other = parts[random.nextInt(parts.length)];
            boolean number = parts[at].matches("[0-9]+");
            boolean name = parts[at].matches("[a-z]+") && !PlainLawn.WORDS.contains(parts[at]);
            if (number) {
                parts[at] = "" + random.nextInt(pick(10, 200));
                return String.join("", parts);
            }
            if (name && other.matches("[a-z]+") && !PlainLawn.WORDS.contains(other)) {
                parts[at] = other;
                return String.join("", parts);
            }
        }
        return s;
    }

    private String spoiledOnce(String s) {
        if (chance(60)) {
            return spoiledInSense(s);
        }
        String[] parts = s.split("(?<=\\s)|(?=\\s)|(?=;)");
        int at = random.nextInt(parts.length);
        int other = random.nextInt(parts.length);
        switch (random.nextInt(8)) {
            case 0:
                parts[at] = "";
                break;
            case 1:
                parts[at] = parts[other];
                break;
            case 2:
                parts[at] = parts[at] + ' ' + parts[other];
                break;
            case 3:
                parts[at] = "" + random.nextInt(12000);
                break;
            case 4:
                parts[at] = parts[at] + (char) random.nextInt(256);
                break;
            case 5:
                String held = parts[at];
                parts[at] = parts[other];
                parts[other] = held;
                break;
            case 6:
                String[] tells = s.split("(?<=;)");
                return s + tells[random.nextInt(tells.length)].repeat(1 + random.nextInt(7));
            default:
                return s.substring(0, random.nextInt(s.length() + 1));
        }
        return String.join("", parts);
    }

    // ---- calls

    private int x() {
        return chance(95) ? random.nextInt(Math.max(1, plain.text.width())) : pick(-1, 7, 8, 9, Integer.MAX_VALUE);
    }

    private int y() {
        return chance(95) ? random.nextInt(Math.max(1, plain.text.rows.size())) : pick(-1, 5, 6, 7, Integer.MIN_VALUE);
    }

    private int placeX() {
        return chance(95) ? random.nextInt(Math.max(1, plain.text.width() - 2)) : x();
    }

    private int placeY() {
        return chance(95) ? random.nextInt(Math.max(1, plain.text.rows.size() - 2)) : y();
    }

    private int sign() {
        return chance(96) ? random.nextInt(Math.max(1, plain.text.signs.size())) : pick(-1, 3, 4, 5);
    }

    private int window() {
        return chance(96) ? random.nextInt(Math.max(1, plain.text.windows.size())) : pick(-1, 3, 4, 5);
    }

    private int upTo(int most) {
        return chance(95) ? random.nextInt(most + 1) : pick(-1, most + 1, Integer.MIN_VALUE, Integer.MAX_VALUE);
    }

    private int k() {
        return chance(90) ? random.nextInt(plain.count(10) + 1) : pick(-1, plain.count(10) + 1);
    }

    private int truth(int x, int y) {
        return chance(80) ? Math.max(0, plain.cell(x, y, 0)) : upTo(99);
    }

    private boolean call() {
        int a = x();
        int b = y();
        boolean ofLastCut = chance(75);
        int px = ofLastCut ? lastCut[1] : placeX();
        int py = ofLastCut ? lastCut[2] : placeY();
        int s = ofLastCut ? lastCut[0] : sign();
        int w = window();
        int few = chance(70) ? random.nextInt(4) : upTo(big ? 20 : 60);
        // What PlainLawn takes very long for is asked seldom late in the year.
        boolean late = plain.count(4) > (big ? 12 : 40);
        switch (random.nextInt(34)) {
            case 0:
                return answers("cell", a, b, upTo(3));
            case 1:
                return same("sign " + s, lawn.sign(s, few), plain.sign(s, few));
            case 2:
                return same("window " + w + ' ' + few, lawn.window(w, few), plain.window(w, few));
            case 3:
                return same("contrast " + s + ' ' + px + ' ' + py, lawn.contrast(s, px, py), plain.contrast(s, px, py));
            case 4:
                int i = chance(50) ? -1 : upTo(3);
                return same("reads " + w + ' ' + s + ' ' + i, lawn.reads(w, s, i), plain.reads(w, s, i));
            case 5:
            case 6:
            case 7:
                s = sign();
                px = placeX();
                py = placeY();
                lastCut = plain.text.isPlace(s, px, py) ? new int[] {s, px, py} : lastCut;
                return same("cut " + s + ' ' + px + ' ' + py, lawn.cut(s, px, py), plain.cut(s, px, py)) && whole();
            case 8:
                return same("graze " + a + ' ' + b, lawn.graze(a, b), plain.graze(a, b)) && whole();
            case 9:
                return same("nourish " + a + ' ' + b, lawn.nourish(a, b), plain.nourish(a, b)) && whole();
            case 10:
                int h = upTo(99);
                return same("mow " + h, lawn.mow(h), plain.mow(h)) && whole();
            case 11:
            case 12:
            case 13:
                return same("weeks " + few, lawn.weeks(few), plain.weeks(few)) && whole();
            case 14:
                return same("undo", lawn.undo() ? 1 : 0, plain.undo() ? 1 : 0) && whole();
            case 15:
                return same("best " + s + ' ' + few, lawn.best(s, few), plain.best(s, few));
            case 16:
                return same("gone " + s + ' ' + px + ' ' + py, lawn.gone(s, px, py), plain.gone(s, px, py));
            case 17:
                int d = big ? few : upTo(20);
                int e = chance(90) && d < 100 ? d + 1 + random.nextInt(big ? 8 : 40) : upTo(60);
                return same("when " + s + ' ' + px + ' ' + py + ' ' + d + ' ' + e, lawn.when(s, px, py, d, e),
                    plain.when(s, px, py, d, e));
            case 18:
                return same("cuts " + w + ' ' + s + ' ' + px + ' ' + py, lawn.cuts(w, s, px, py),
                    plain.cuts(w, s, px, py));
            case 19:
                return big && chance(80)
                    || same("care " + s + ' ' + px + ' ' + py, lawn.care(s, px, py), plain.care(s, px, py));
            case 20:
                return same("level", lawn.level(), plain.level());
            case 21:
                return same("quiet", lawn.quiet(), plain.quiet());
            case 22:
                return same("knows " + w + ' ' + s, lawn.knows(w, s), plain.knows(w, s));
            case 23:
                int n = upTo(60);
                return same("then " + a + ' ' + b + ' ' + n, lawn.then(a, b, n), plain.then(a, b, n));
            case 24:
                return answers("all", upTo(60), upTo(3), upTo(99));
            case 25:
                int seeds = chance(95) ? 1 + random.nextInt(big ? 3 : 20) : upTo(20);
                return same("year " + w + ' ' + s + ' ' + few + ' ' + seeds, lawn.year(w, s, few, seeds),
                    plain.year(w, s, few, seeds));
            case 26:
            case 27:
                int high = truth(a, b);
                return same("tell " + a + ' ' + b + ' ' + high, lawn.tell(a, b, high), plain.tell(a, b, high));
            case 28:
                return chance(80) || same("forget", lawn.forget(), plain.forget());
            case 29:
                return late && chance(90) || blading();
            case 30:
                return same("hold " + few, lawn.hold(few) ? 1 : 0, plain.hold(few) ? 1 : 0);
            case 31:
                return same("restore " + few, lawn.restore(few) ? 1 : 0, plain.restore(few) ? 1 : 0) && whole();
            default:
                int what = upTo(13);
                return same("count " + what, lawn.count(what), plain.count(what));
        }
    }

    private boolean answers(String name, int a, int b, int c) {
        boolean cell = name.equals("cell");
        return same(name + ' ' + a + ' ' + b + ' ' + c, cell ? lawn.cell(a, b, c) : lawn.all(a, b, c),
            cell ? plain.cell(a, b, c) : plain.all(a, b, c));
    }

    private boolean blading() {
        int k = k();
        int what = upTo(3);
        return same("blades " + k, lawn.blades(k), plain.blades(k))
            && same("sure " + k + ' ' + what, lawn.sure(k, what), plain.sure(k, what))
            && same("ask " + k, lawn.ask(k), plain.ask(k));
    }

    /** All that can be seen of what goes on, by calls that are not counted. */
    private boolean whole() {
        for (int y = 0; y < plain.text.rows.size(); y++) {
            for (int x = 0; x < plain.text.width(); x++) {
                for (int what = 0; what < 4; what++) {
                    if (lawn.cell(x, y, what) != plain.cell(x, y, what)) {
                        return answers("cell", x, y, what);
                    }
                }
            }
        }
        for (int i = 0; i < 4; i++) {
            for (int what = 0; what < 5; what++) {
                if (lawn.sign(i, what) != plain.sign(i, what) || lawn.window(i, what) != plain.window(i, what)) {
                    return same("sign or window " + i + ' ' + what, 0, 1);
                }
            }
        }
        for (int what = 0; what < 14; what++) {
            if (lawn.count(what) != plain.count(what)) {
                return same("count " + what, lawn.count(what), plain.count(what));
            }
        }
        return true;
    }
}
