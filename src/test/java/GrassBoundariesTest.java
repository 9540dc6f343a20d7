import java.io.IOException;
import java.math.BigInteger;

/** A test for each sentence of the document's part II (laws, weeks, what is done by hand) that names a boundary. */
public final class GrassBoundariesTest {
    private static final String THREE = "row ccc; row ccc; row ccc; ";
    private static final String WIDE = "row cccccccc; row cccccccc; row cccccccc; row cccccccc; row cccccccc; row cccccccc; ";
    private static final String DOT = THREE + "sign dot ooo oxo ooo; ";
    private static final String MAX = "((2147 * 1000 + 483) * 1000 + 647)";
    private static final String MIN = "(0 - " + MAX + " - 1)";
    private static final BigInteger BITS_32 = BigInteger.ONE.shiftLeft(32);

    private GrassBoundariesTest() { }

    public static void main(String[] args) throws IOException {
        Sentences.open();
        laws();
        standingOut();
        weeks();
        byHand();
        Sentences.end();
    }

    private static void laws() {
        String all = "Promises 6, 11, 13 and 15";
        Sentences.of(all, "II", "LAWS: the E of the first if that holds (one less than the other), else the last one;",
            GrassBoundariesTest::firstThatHolds);
        Sentences.of(all, "II", "ints of 32 bits that wrap, / rounded towards 0;", GrassBoundariesTest::wraps);
        Sentences.of(all, "II", "a LAW in which something that is looked at is divided by 0 is 0;",
            GrassBoundariesTest::dividedByZero);
        Sentences.of(all, "II", "a VAR not told for a LAW is 0 in it; week for all.", GrassBoundariesTest::varsNotTold);
        Sentences.of("Promises 6 and 15", "II",
            "beside: the greatest height of the four CELLS next to it (off the lawn: 0)", GrassBoundariesTest::beside);
        Sentences.of("Promises 6, 12, 13 and 15", "II", "PAVED CELLS are 0 high, always.", GrassBoundariesTest::paved);
        Sentences.of("Promises 6 and 15", "II", "GROWS, held to -9 .. 9, for a CELL in a week;",
            GrassBoundariesTest::growsHeld);
        Sentences.of("Promise 13", "II", "FEEDS (tall, sun, food, across, down), held to 0 .. 9;",
            GrassBoundariesTest::feedsHeld);
        Sentences.of("Promise 11", "II",
            "FINES (size: CELLS of a sign that are cut, 'x'; across, down: its PLACE), held to 0 .. 99.",
            GrassBoundariesTest::finesHeld);
        Sentences.of("Promises 15, 27 and 35", "II",
            "LOT n of a SEED and a which: h is the SEED; for each of 97, which: h becomes (h and it, each bit of which is in"
            + " just one) times 1103515245 and 12345 more, then h and h moved 15 bits down (zeros come in), likewise; the rest"
            + " of h, moved 1 bit down likewise, by n (32 bits that wrap).", GrassBoundariesTest::lots);
    }

    /** The middle cell of three by three: 7 high, sun 2, food 2, in week 0. */
    private static void worth(String law, int want) {
        MownLawn lawn = Check.lawn(THREE + "height 7; grows = " + law + ";");
        lawn.nourish(1, 1);
        Check.due(law, lawn.cell(1, 1, 3), want);
    }

    private static void firstThatHolds() {
        worth("if 1 < 2 then 3 else 4", 3);
        worth("if 2 < 2 then 3 else 4", 4);
        worth("if 3 < 2 then 3 else 4", 4);
        worth("if 1 < 2 then 3 else if 1 < 2 then 4 else 5", 3);
        worth("if 2 < 2 then 3 else if 1 < 2 then 4 else 5", 4);
        worth("if 2 < 2 then 3 else if 2 < 2 then 4 else 5", 5);
        String three = "if 2 < 2 then 1 else if 2 < 2 then 2 else if 2 < 2 then 3 else ";
        worth(three + "if 1 < 2 then 4 else 5", 4);
        worth(three + "if 2 < 2 then 4 else 5", 5);
        worth("if 0 - 1 < 0 then 3 else 4", 3);
        worth("if tall < 7 then 3 else 4", 4);
        worth("if 4 < 2 + 3 then 1 else 2", 1);
        worth("if 2 + 3 < 5 then 1 else 2", 2);
        worth("if 9 - 8 < 8 - 5 then 6 - 3 else 2 * 2", 3);
        worth("if 9 - 5 < 8 / 2 then 6 - 3 else 2 * 2 + 1", 5);
        worth("if tall < 8 then 3 else 4", 3);
    }

    private static void wraps() {
        worth(MAX + " + 1 - " + MIN, 0);
        worth("if " + MAX + " + 1 < 0 then 1 else 2", 1);
        worth(MIN + " - 1 - " + MAX, 0);
        worth("if " + MIN + " - 1 < 0 then 1 else 2", 2);
        worth(MAX + " * 2", -2);
        worth(MAX + " * " + MAX, 1);
        worth(MIN + " * " + MIN, 0);
        worth(MIN + " / (0 - 1) - " + MIN, 0);
        worth("if " + MIN + " / (0 - 1) < 0 then 1 else 2", 1);
        worth("if " + MIN + " < " + MAX + " then 1 else 2", 1);
        worth("if " + MAX + " < " + MIN + " then 1 else 2", 2);
        worth("(0 - 7) / 2", -3);
        worth("7 / (0 - 2)", -3);
        worth("(0 - 7) / (0 - 2)", 3);
        worth("(0 - 1) / 2", 0);
        worth("1 / 2", 0);
        worth("9999 * 9999 * 9999 - 1 - 9999 * 9999 * 9998 - 9999 * 9999", -1);
        // 2 to the 32nd is 0: 256 * 256 * 256 * 256.
        worth("5 + 256 * 256 * 256 * 256", 5);
    }

    private static void dividedByZero() {
        worth("5 / 0", 0);
        worth("0 / 0", 0);
        worth("3 + 5 / 0", 0);
        worth("3 + 0 * (5 / 0)", 0);
        worth("5 / 0 + 3", 0);
        worth("5 / (tall - 7) * 0 + 4", 0);
        worth(MIN + " / 0 + 4", 0);
        worth("if 5 / 0 < 1 then 3 else 4", 0);
        worth("if 1 < 5 / 0 then 3 else 4", 0);
        worth("if 1 < 2 then 5 / 0 else 4", 0);
        worth("if 2 < 2 then 3 else 5 / 0", 0);
        worth("if 2 < 2 then 3 else if 5 / 0 < 1 then 3 else 4", 0);
        // What is not looked at does no harm.
        worth("if 1 < 2 then 3 else 5 / 0", 3);
        worth("if 2 < 2 then 5 / 0 else 4", 4);
        worth("if 1 < 2 then 3 else if 5 / 0 < 1 then 4 else 5", 3);
        MownLawn lawn = Check.lawn(DOT + "feeds = 7 + 1 / (sun - 2); fines = 7 + 1 / across;");
        Check.due("nourish(0, 0)", lawn.nourish(0, 0), 0);
        Check.due("cut(0, 0, 0)", lawn.cut(0, 0, 0), 0);
    }

    private static void varsNotTold() {
        worth("1 + size", 1);
        String rest = "; grows = 0; rain 100 9; height 3;";
        MownLawn feeds = Check.lawn(THREE + "feeds = 1 + wet + beside + size" + rest);
        Check.due("nourish(1, 1): wet, beside, size", feeds.nourish(1, 1), 1);
        feeds.weeks(1);
        Check.due("nourish(0, 0) behind a week of rain", feeds.nourish(0, 0), 1);
        for (String var : new String[] {"tall", "sun", "wet", "food", "beside"}) {
            MownLawn fines = Check.lawn(DOT + "fines = 1 + " + var + rest);
            fines.nourish(0, 0);
            fines.nourish(1, 1);
            Check.due("cut(0, 0, 0): " + var, fines.cut(0, 0, 0), 1);
        }
        // What one law was told of is not left over for another one.
        MownLawn both = Check.lawn(DOT + "fines = 1 + food + beside; feeds = 1 + beside + size; grows = beside + size;"
            + " height 3;");
        both.cell(1, 1, 3);
        Check.due("nourish(1, 1)", both.nourish(1, 1), 1);
        Check.due("cut(0, 0, 0)", both.cut(0, 0, 0), 1);
        Check.due("cell(1, 1, 3)", both.cell(1, 1, 3), 3);
        MownLawn week = Check.lawn(DOT + "grows = week; feeds = week; fines = week;");
        Check.due("cell(0, 0, 3) in week 0", week.cell(0, 0, 3), 0);
        Check.due("nourish(0, 0) in week 0", week.nourish(0, 0), 0);
        Check.due("cut(0, 0, 0) in week 0", week.cut(0, 0, 0), 0);
        week.weeks(5);
        Check.due("cell(0, 0, 3) in week 5", week.cell(0, 0, 3), 5);
        Check.due("nourish(0, 0) in week 5", week.nourish(0, 0), 5);
        Check.due("cut(0, 0, 0) in week 5", week.cut(0, 0, 0), 5);
        week.weeks(60);
        Check.due("cut(0, 0, 0) in week 65", week.cut(0, 0, 0), 65);
    }

    private static void besideOf(MownLawn lawn, int x, int y, int want) {
        Check.due("beside of " + x + ", " + y, lawn.cell(x, y, 3), want);
    }

    private static MownLawn onlyTallAt(int tallX, int tallY) {
        MownLawn lawn = Check.lawn(WIDE + "height 5; grows = beside;");
        for (int y = 0; y < 6; y++) {
            for (int x = 0; x < 8; x++) {
                if (x != tallX || y != tallY) {
                    lawn.graze(x, y);
                }
            }
        }
        return lawn;
    }

    private static void beside() {
        int[][] talls = {{3, 2}, {0, 0}, {7, 0}, {0, 5}, {7, 5}, {7, 2}, {0, 3}, {4, 0}, {4, 5}};
        for (int[] tall : talls) {
            MownLawn lawn = onlyTallAt(tall[0], tall[1]);
            for (int y = 0; y < 6; y++) {
                for (int x = 0; x < 8; x++) {
                    besideOf(lawn, x, y, Math.abs(x - tall[0]) + Math.abs(y - tall[1]) == 1 ? 5 : 0);
                }
            }
        }
        besideOf(Check.lawn("row c; grows = beside;"), 0, 0, 0);
        MownLawn greatest = Check.lawn(THREE + "height 0; grows = if week < 1 then 1 + across + 3 * down else beside;");
        greatest.weeks(1);
        besideOf(greatest, 1, 1, 8);
        besideOf(greatest, 0, 0, 4);
        besideOf(greatest, 2, 2, 8);
        MownLawn narrow = Check.lawn("row pcp; height 9; grows = beside;");
        besideOf(narrow, 1, 0, 0);
    }

    private static void paved() {
        MownLawn lawn = Check.lawn("row cpc; row ppc; row ccc; sign s oxo xoo ooo; height 99; grows = 9;");
        Check.due("at first", lawn.cell(1, 0, 0), 0);
        lawn.weeks(60);
        Check.due("behind 60 weeks", lawn.cell(1, 0, 0), 0);
        Check.due("graze(1, 0)", lawn.graze(1, 0), -2);
        Check.due("nourish(1, 0)", lawn.nourish(1, 0), -2);
        Check.due("mow(50), of 6 CELLS of GRASS", lawn.mow(50), 6);
        Check.due("mown", lawn.cell(1, 0, 0), 0);
        Check.due("cut(0, 0, 0)", lawn.cut(0, 0, 0), 2);
        lawn.weeks(2);
        Check.due("cut", lawn.cell(1, 0, 0), 0);
        Check.due("cell(1, 0, 2)", lawn.cell(1, 0, 2), 0);
        Check.due("then(1, 1, 60)", lawn.then(1, 1, 60), 0);
        Check.due("contrast(0, 0, 0), one that is left is PAVED", lawn.contrast(0, 0, 0), 0);
        // Laws in which a PAVED cell would grow, if it were GRASS.
        MownLawn law = Check.lawn("row pc; grows = 9 - sun; height 0;");
        law.weeks(3);
        Check.due("grows", law.cell(0, 0, 0), 0);
        Check.due("cell(0, 0, 3)", law.cell(0, 0, 3), 0);
    }

    private static void growsHeld() {
        worth("9", 9);
        worth("10", 9);
        worth("9999", 9);
        worth(MAX, 9);
        worth("0 - 9", -9);
        worth("0 - 10", -9);
        worth(MIN, -9);
        MownLawn up = Check.lawn("row c; height 50; grows = 10;");
        up.weeks(1);
        Check.due("50 and 10", up.cell(0, 0, 0), 59);
        MownLawn down = Check.lawn("row c; height 50; grows = 0 - 10;");
        down.weeks(1);
        Check.due("50 less 10", down.cell(0, 0, 0), 41);
        // The greatest ints: the sum must not wrap ere it is held.
        MownLawn far = Check.lawn("row c; height 50; grows = if week < 1 then " + MAX + " else " + MIN + ";");
        far.weeks(1);
        Check.due("50 and the greatest int", far.cell(0, 0, 0), 59);
        far.weeks(1);
        Check.due("59 and the least int", far.cell(0, 0, 0), 50);
    }

    private static int fed(String law) {
        return Check.lawn("row ccc; feeds = " + law + ";").nourish(2, 0);
    }

    private static void feedsHeld() {
        Check.due("0", fed("0"), 0);
        Check.due("9", fed("9"), 9);
        Check.due("10", fed("10"), 9);
        Check.due("greatest", fed(MAX), 9);
        Check.due("0 - 1", fed("0 - 1"), 0);
        Check.due("least", fed(MIN), 0);
        Check.due("tall - 15", fed("tall - 15"), 5);
        Check.due("sun", fed("sun"), 2);
        Check.due("across", fed("across"), 2);
        Check.due("food", fed("food"), 0);
        MownLawn lawn = Check.lawn("row c; row c; row d; feeds = if food < 1 then down else food + sun;");
        Check.due("down", lawn.nourish(0, 2), 2);
        Check.due("food and sun", lawn.nourish(0, 2), 7);
        Check.due("food and sun, held", lawn.nourish(0, 2), 16);
    }

    private static int fine(String law) {
        return Check.lawn(WIDE + "sign s xoo oxo oox; fines = " + law + ";").cut(0, 5, 3);
    }

    private static void finesHeld() {
        Check.due("0", fine("0"), 0);
        Check.due("99", fine("99"), 99);
        Check.due("100", fine("100"), 99);
        Check.due("greatest", fine(MAX), 99);
        Check.due("0 - 1", fine("0 - 1"), 0);
        Check.due("least", fine(MIN), 0);
        Check.due("size", fine("size"), 3);
        Check.due("across", fine("across"), 5);
        Check.due("down", fine("down"), 3);
        MownLawn all = Check.lawn(THREE + "sign a xxx xxx xxx; sign n ooo ooo ooo; fines = 11 * size;");
        Check.due("nine of nine", all.cut(0, 0, 0), 99);
        Check.due("none of nine", all.cut(1, 0, 0), 0);
        MownLawn paved = Check.lawn("row ppp; row ppp; row ppp; sign a xxx xxx xxx;");
        Check.due("PAVED ones are CELLS of the sign", paved.cut(0, 0, 0), 9);
    }

    /** By numbers without a bound, brought to 32 bits at each step. */
    private static int lot(int n, int seed, int which) {
        BigInteger h = BigInteger.valueOf(seed);
        for (int it : new int[] {97, which}) {
            h = h.xor(BigInteger.valueOf(it)).multiply(BigInteger.valueOf(1103515245)).add(BigInteger.valueOf(12345))
                .mod(BITS_32);
            h = h.xor(h.shiftRight(15));
        }
        return h.shiftRight(1).mod(BigInteger.valueOf(n)).intValue();
    }

    private static void lots() {
        for (int seed : new int[] {0, 1, 97, 1234, 9998, 9999}) {
            for (int often : new int[] {1, 37, 50, 99}) {
                MownLawn lawn = Check.lawn("row c; rain " + often + " 5; seed " + seed + ";");
                for (int week = 0; week < 200; week++) {
                    Check.due("seed " + seed + ", rain in week " + week, lawn.count(7),
                        lot(100, seed, 4 * week) < often ? 5 : 0);
                    lawn.weeks(1);
                }
            }
        }
        MownLawn late = Check.lawn("row c; rain 50 5; seed 4321;");
        for (int week = 0; week <= 14400; week += 60) {
            Check.due("rain in week " + week, late.count(7), lot(100, 4321, 4 * week) < 50 ? 5 : 0);
            late.weeks(60);
        }
    }

    private static void standingOut() {
        Sentences.of("Promises 9, 11, 17 to 21", "II", "A PLACE of a sign: X, Y of its first CELL, all nine on the lawn.",
            GrassBoundariesTest::places);
        Sentences.of("Promises 9 and 17", "II", "A sign STANDS OUT there by the least height of its CELLS that are left, 'o',"
            + " less the greatest of those that are cut (may be below 0);", GrassBoundariesTest::standsOut);
        Sentences.of("Promises 10, 18 to 24", "II", "a WINDOW READS it there if X and X + 2 are among what it sees, and it"
            + " stands out by SHARP or more;", GrassBoundariesTest::isRead);
        Sentences.of("Promises 9, 10, 17, 20, 22 and 23", "II",
            "a sign without an 'x', or without an 'o', is READ nowhere, and stands out by -1000.",
            GrassBoundariesTest::withoutOne);
    }

    private static void places() {
        for (int width = 1; width <= 8; width++) {
            for (int rows = 1; rows <= 6; rows++) {
                MownLawn lawn = Check.lawn(("row " + "c".repeat(width) + ";").repeat(rows) + "sign s xoo ooo ooo;");
                for (int y = -1; y <= 6; y++) {
                    for (int x = -1; x <= 8; x++) {
                        boolean on = x >= 0 && y >= 0 && x + 2 < width && y + 2 < rows;
                        Check.due(width + " by " + rows + ": contrast(0, " + x + ", " + y + ")", lawn.contrast(0, x, y),
                            on ? 0 : -2000);
                    }
                }
                Check.due(width + " by " + rows + ": blades(0)", lawn.blades(0),
                    Math.max(0, width - 2) * Math.max(0, rows - 2));
            }
        }
        // Without a PLACE nothing is read, however small the lawn is.
        for (String rows : new String[] {"", "row c; ", "row cc; row cc; ", "row c; row c; row c; ", "row ccc; row ccc; ",
            "row cccccccc; ", "row c; row c; row c; row c; row c; row c; "}) {
            MownLawn small = Check.lawn(rows + "sign s xoo ooo ooo; window w 0 7 0;");
            Check.due(rows + "contrast(0, 0, 0)", small.contrast(0, 0, 0), -2000);
            Check.due(rows + "reads(0, 0, -1)", small.reads(0, 0, -1), 0);
            Check.due(rows + "reads(0, 0, 0)", small.reads(0, 0, 0), -1);
            Check.due(rows + "best(0, 0)", small.best(0, 0), -2000);
            Check.due(rows + "level()", small.level(), 99);
            Check.due(rows + "quiet()", small.quiet(), 0);
            Check.due(rows + "knows(0, 0)", small.knows(0, 0), -2);
            Check.due(rows + "year(0, 0, 1, 2)", small.year(0, 0, 1, 2), 0);
            Check.due(rows + "weeks(2)", small.weeks(2), 2);
            Check.due(rows + "blades(0)", small.blades(0), 0);
            Check.due(rows + "ask(0)", small.ask(0), -2);
        }
        // Off the lawn all would be 0 high, as if it were cut: but no sign is there.
        for (String sign : new String[] {"oox oox oox", "xoo xoo xoo", "xxx ooo ooo", "ooo ooo xxx", "oox oox xxx"}) {
            MownLawn flat = Check.lawn("row cccc; row cccc; row cccc; row cccc; grows = 0; sign s " + sign + "; window w 0 7 5;");
            Check.due(sign + ": reads(0, 0, -1)", flat.reads(0, 0, -1), 0);
            Check.due(sign + ": best(0, 0)", flat.best(0, 0), 0);
            Check.due(sign + ": level()", flat.level(), 99);
            Check.due(sign + ": quiet()", flat.quiet(), 0);
            Check.due(sign + ": knows(0, 0)", flat.knows(0, 0), -2);
            Check.due(sign + ": year(0, 0, 1, 1)", flat.year(0, 0, 1, 1), 0);
        }
        MownLawn last = Check.lawn(WIDE + "sign s ooo ooo oox;");
        Check.due("cut(0, 5, 3)", last.cut(0, 5, 3), 1);
        Check.due("cell(7, 5, 0)", last.cell(7, 5, 0), 0);
        Check.due("cell(6, 5, 0)", last.cell(6, 5, 0), 20);
        Check.due("cell(7, 4, 0)", last.cell(7, 4, 0), 20);
    }

    private static void standsOut() {
        MownLawn high = Check.lawn(THREE + "sign a xxx xox xxx; sign b ooo oxo ooo; height 99;");
        Check.due("all alike", high.contrast(0, 0, 0), 0);
        high.cut(0, 0, 0);
        Check.due("99 less 0", high.contrast(0, 0, 0), 99);
        Check.due("0 less 99", high.contrast(1, 0, 0), -99);
        // Every one of the nine counts: as the least that is left, and as the greatest that is cut.
        for (int i = 0; i < 9; i++) {
            String out = "ooooooooo".substring(0, i) + "x" + "ooooooooo".substring(i + 1);
            String in = out.replace('o', '-').replace('x', 'o').replace('-', 'x');
            String rows = " %s %s %s; ";
            MownLawn lawn = Check.lawn("row eeee; row eeee; row eeee; row eeee; height 50;"
                + "sign out" + rows.formatted(out.substring(0, 3), out.substring(3, 6), out.substring(6))
                + "sign in" + rows.formatted(in.substring(0, 3), in.substring(3, 6), in.substring(6)));
            lawn.cut(0, 1, 1);
            Check.due("cut at " + i + ": the greatest of those that are cut", lawn.contrast(0, 1, 1), 50);
            Check.due("left at " + i + ": below 0", lawn.contrast(1, 1, 1), -50);
            lawn.weeks(3);
            Check.due("cut at " + i + ", behind 3 weeks", lawn.contrast(0, 1, 1), 50);
            lawn.graze(1 + (i + 1) % 9 % 3, 1 + (i + 1) % 9 / 3);
            Check.due("cut at " + i + ": the least of those that are left", lawn.contrast(0, 1, 1), -12);
        }
    }

    private static void isRead() {
        // The dot is cut at X 2, and stands out by 20.
        String[] windows = {"2 4 20", "2 3 0", "3 4 0", "2 4 21", "0 7 20", "2 7 19", "0 4 20", "3 7 0", "0 3 0", "2 2 0"};
        int[] reads = {1, 0, 0, 0, 1, 1, 1, 0, 0, 0};
        for (int i = 0; i < windows.length; i++) {
            MownLawn lawn = Check.lawn("row ppccccp; row ppccccp; row ppccccp; sign dot ooo oxo ooo; sign bar oxo oxo oxo;"
                + " grows = 0; window w " + windows[i] + ";");
            lawn.cut(0, 2, 0);
            Check.due("window w " + windows[i], readAt(lawn, 0, 0, 2), reads[i]);
            // What is below 0 is not read, however dull the eye is.
            Check.due("bar, window w " + windows[i], readAt(lawn, 0, 1, 2), 0);
            Check.due("gone(0, 2, 0), window w " + windows[i], lawn.gone(0, 2, 0), reads[i] == 1 ? -2 : 0);
        }
        MownLawn sharpest = Check.lawn(DOT + "window w 0 2 99; height 99; grows = 0;");
        Check.due("not cut", sharpest.reads(0, 0, -1), 0);
        sharpest.cut(0, 0, 0);
        Check.due("99 is read by 99", sharpest.reads(0, 0, -1), 1);
        sharpest.mow(98);
        Check.due("98 is not read by 99", sharpest.reads(0, 0, -1), 0);
        MownLawn dull = Check.lawn(DOT + "window w 0 2 0;");
        Check.due("0 is read by 0", dull.reads(0, 0, -1), 1);
        dull.graze(0, 0);
        Check.due("-20 is not read by 0", dull.reads(0, 0, -1), 0);
    }

    private static int readAt(MownLawn lawn, int window, int sign, int x) {
        int found = lawn.reads(window, sign, -1);
        for (int i = 0; i < found; i++) {
            if (lawn.reads(window, sign, i) == x) {
                return 1;
            }
        }
        return 0;
    }

    private static void withoutOne() {
        MownLawn lawn = Check.lawn(THREE + "sign no ooo ooo ooo; sign all xxx xxx xxx; window w 0 2 0; height 0; grows = 0;");
        for (int sign = 0; sign < 2; sign++) {
            Check.due("contrast", lawn.contrast(sign, 0, 0), -1000);
            Check.due("best", lawn.best(sign, 0), -1000);
            Check.due("best, X", lawn.best(sign, 1), 0);
            Check.due("best, Y", lawn.best(sign, 2), 0);
            Check.due("reads", lawn.reads(0, sign, -1), 0);
            Check.due("gone", lawn.gone(sign, 0, 0), 0);
            Check.due("when", lawn.when(sign, 0, 0, 0, 1), -2);
            Check.due("cuts", lawn.cuts(0, sign, 0, 0), -2);
            Check.due("knows", lawn.knows(0, sign), -2);
            Check.due("year", lawn.year(0, sign, 1, 20), 0);
            Check.due("cut", lawn.cut(sign, 0, 0), 9 * sign);
            Check.due("contrast, cut", lawn.contrast(sign, 0, 0), -1000);
            lawn.weeks(1);
            Check.due("known", lawn.sign(sign, 1), 0);
        }
        Check.due("level", lawn.level(), 99);
        Check.due("quiet", lawn.quiet(), 0);
        Check.due("cut twice", lawn.count(6), 2);
    }

    private static void weeks() {
        Sentences.of("Promises 15 and 35", "II",
            "A WEEK: it rains if LOT 100 of the SEED and 4 * the week is less than how often.",
            GrassBoundariesTest::lessThanHowOften);
        Sentences.of("Promise 15", "II", "Each CELL of GRASS GROWS, by how all was as the week began (0 to 99 high);",
            GrassBoundariesTest::grows);
        Sentences.of("Promises 6 and 15", "II", "its food is 1 less (0 at least).", GrassBoundariesTest::foodGoes);
        Sentences.of("Promises 7, 8, 15 and 24", "II", "Then each WINDOW knows a sign that it READS anywhere, and that one"
            + " with which it has a TALK knew as the week began; what is known stays so.", GrassBoundariesTest::known);
    }

    private static void lessThanHowOften() {
        int seen = 0;
        for (int seed = 0; seed < 600; seed++) {
            int lot = lot(100, seed, 0);
            Check.due("seed " + seed + ", alike", Check.lawn("rain " + lot + " 6; seed " + seed + ";").count(7), 0);
            Check.due("seed " + seed + ", less", Check.lawn("rain " + (lot + 1) + " 6; seed " + seed + ";").count(7), 6);
            seen |= lot == 0 ? 1 : lot == 99 ? 2 : 0;
        }
        Check.due("LOTS of 0 and of 99 were among them", seen, 3);
        // Week 3 is LOT 12's, not LOT 3's or LOT 16's.
        int lot = lot(100, 42, 12);
        MownLawn alike = Check.lawn("row c; height 0; grows = wet; seed 42; rain " + lot + " 6;");
        MownLawn less = Check.lawn("row c; height 0; grows = wet; seed 42; rain " + (lot + 1) + " 6;");
        alike.weeks(3);
        less.weeks(3);
        int before = less.cell(0, 0, 0);
        Check.due("alike in week 3", alike.count(7), 0);
        Check.due("less in week 3", less.count(7), 6);
        less.weeks(1);
        Check.due("it grows by that week's rain", less.cell(0, 0, 0) - before, 6);
    }

    private static void grows() {
        MownLawn top = Check.lawn("row bcj; height 97; grows = sun;");
        top.weeks(1);
        Check.due("97 and 1", top.cell(0, 0, 0), 98);
        Check.due("97 and 2", top.cell(1, 0, 0), 99);
        Check.due("97 and 9", top.cell(2, 0, 0), 99);
        top.weeks(60);
        Check.due("99 at most", top.cell(0, 0, 0), 99);
        MownLawn low = Check.lawn("row bcj; height 2; grows = 0 - sun;");
        low.weeks(1);
        Check.due("2 less 1", low.cell(0, 0, 0), 1);
        Check.due("2 less 2", low.cell(1, 0, 0), 0);
        Check.due("2 less 9", low.cell(2, 0, 0), 0);
        low.weeks(60);
        Check.due("0 at least", low.cell(0, 0, 0), 0);
        // Each becomes what one beside it was: whoever is grown first, by what was.
        MownLawn row = Check.lawn("row abaa; height 0; grows = if week < 1 then sun * 9 else beside - tall;");
        row.weeks(1);
        int[][] due = {{0, 9, 0, 0}, {9, 0, 9, 0}, {0, 9, 0, 9}, {9, 0, 9, 0}};
        for (int week = 0; week < due.length; week++) {
            for (int x = 0; x < 4; x++) {
                Check.due("row, week " + (week + 1) + ", X " + x, row.cell(x, 0, 0), due[week][x]);
            }
            row.weeks(1);
        }
        MownLawn column = Check.lawn("row a; row b; row a; height 0; grows = if week < 1 then sun * 9 else beside - tall;");
        column.weeks(2);
        Check.due("column, above", column.cell(0, 0, 0), 9);
        Check.due("column, middle", column.cell(0, 1, 0), 0);
        Check.due("column, below", column.cell(0, 2, 0), 9);
        // Food is what it was as the week began, too.
        MownLawn food = Check.lawn("row c; height 0; feeds = 1; grows = food;");
        food.nourish(0, 0);
        food.weeks(1);
        Check.due("food of 1", food.cell(0, 0, 0), 1);
    }

    private static void foodGoes() {
        MownLawn lawn = Check.lawn("row cc; feeds = 2;");
        lawn.nourish(1, 0);
        int[] due = {1, 0, 0, 0};
        for (int week = 0; week < due.length; week++) {
            lawn.weeks(1);
            Check.due("fed, behind " + (week + 1), lawn.cell(1, 0, 2), due[week]);
            Check.due("not fed, behind " + (week + 1), lawn.cell(0, 0, 2), 0);
        }
        lawn.nourish(1, 0);
        lawn.weeks(60);
        Check.due("60 at once", lawn.cell(1, 0, 2), 0);
        Check.due("fed again", lawn.nourish(1, 0), 2);
    }

    private static void known() {
        // c reads; it tells b and d, b tells a: whichever way they are numbered, one week each.
        MownLawn lawn = Check.lawn(DOT + "sign two xoo ooo ooo; window a 0 1 0; window b 0 1 0; window c 0 2 9;"
            + " window d 0 1 0; talk c b; talk a b; talk d c; grows = if tall < 20 then 9 else 0;");
        lawn.cut(0, 0, 0);
        Check.due("not by the cut alone", lawn.sign(0, 1), 0);
        int[] knowers = {4, 14, 15, 15};
        for (int week = 0; week < knowers.length; week++) {
            lawn.weeks(1);
            Check.due("who knows behind " + (week + 1), lawn.sign(0, 1), knowers[week]);
            Check.due("nobody knows the other sign", lawn.sign(1, 1), 0);
        }
        Check.due("it is read no more", lawn.reads(2, 0, -1), 0);
        lawn.mow(0);
        lawn.weeks(60);
        Check.due("what is known stays so", lawn.sign(0, 1), 15);
        // One sign is known, each of the others is learnt none the less; what was cut is grown out behind three weeks.
        MownLawn four = Check.lawn(THREE + "sign a xoo ooo ooo; sign b oxo ooo ooo; sign c oox ooo ooo; sign d ooo xoo ooo;"
            + " window w 0 2 10; grows = if tall < 20 then 9 else 0;");
        int bits = 0;
        for (int sign : new int[] {2, 1, 3, 0}) {
            four.cut(sign, 0, 0);
            four.weeks(1);
            bits |= 1 << sign;
            Check.due("learnt " + sign, four.window(0, 3), bits);
            four.weeks(2);
        }
        // Read as a week ends, not as it begins: grown out within the first one.
        MownLawn quick = Check.lawn(DOT + "window a 0 2 1; height 9; grows = if tall < 9 then 9 else 0;");
        quick.cut(0, 0, 0);
        Check.due("read now", quick.reads(0, 0, -1), 1);
        quick.weeks(1);
        Check.due("but not then", quick.sign(0, 1), 0);
        // The last PLACE counts like the first one.
        MownLawn corner = Check.lawn(WIDE + "sign dot ooo oxo ooo; window a 5 7 20; window b 0 2 20;");
        corner.cut(0, 5, 3);
        corner.weeks(1);
        Check.due("a knows, b does not", corner.sign(0, 1), 1);
    }

    private static void byHand() {
        Sentences.of("Promise 11", "II", "By hand: a sign is CUT at a PLACE (its 'x' CELLS are 0 high; a FINE is paid);",
            GrassBoundariesTest::cut);
        Sentences.of("Promises 12 and 13", "II",
            "a CELL of GRASS is GRAZED (0 high) or FED (food more by what FEEDS tells; 99 at most);",
            GrassBoundariesTest::grazedAndFed);
        Sentences.of("Promise 14", "II", "all GRASS is MOWN to a height (who is taller is that high);",
            GrassBoundariesTest::mown);
    }

    private static void cut() {
        MownLawn lawn = Check.lawn("row ccccc; row ccccc; row ccccc; row ccccc; sign h xox xxx xox; fines = 40;");
        lawn.nourish(1, 1);
        Check.due("cut(0, 1, 1)", lawn.cut(0, 1, 1), 40);
        String[] due = {"00000", "01010", "01110", "01010"};
        for (int y = 0; y < 4; y++) {
            for (int x = 0; x < 5; x++) {
                Check.due("cell " + x + ", " + y, lawn.cell(x, y, 0), due[y].charAt(x) == '1' ? 0 : 20);
            }
        }
        Check.due("its food stays", lawn.cell(1, 1, 2), 2);
        Check.due("cut again: a FINE is paid again", lawn.cut(0, 1, 1), 40);
        for (int i = 0; i < 98; i++) {
            lawn.cut(0, 0, 0);
        }
        Check.due("a hundred FINES", lawn.count(5), 4000);
        Check.due("a hundred cuts", lawn.sign(0, 2), 100);
        Check.due("a hundred cuts", lawn.count(6), 100);
    }

    private static void grazedAndFed() {
        MownLawn lawn = Check.lawn("row cc; height 99; feeds = 9;");
        for (int i = 1; i <= 13; i++) {
            Check.due("fed " + i + " times", lawn.nourish(0, 0), Math.min(99, 9 * i));
        }
        Check.due("the other one", lawn.cell(1, 0, 2), 0);
        lawn.weeks(1);
        Check.due("98 and 9", lawn.nourish(0, 0), 99);
        Check.due("graze(0, 0)", lawn.graze(0, 0), 99);
        Check.due("0 high", lawn.cell(0, 0, 0), 0);
        Check.due("the other one", lawn.cell(1, 0, 0), 99);
        Check.due("its food stays", lawn.cell(0, 0, 2), 99);
        Check.due("graze(0, 0) again", lawn.graze(0, 0), 0);
    }

    private static void mown() {
        MownLawn lawn = Check.lawn("row abcdefgh; height 10; grows = sun;");
        lawn.weeks(1);
        Check.due("mow(17), as high as the tallest", lawn.mow(17), 0);
        Check.due("mow(14)", lawn.mow(14), 3);
        for (int x = 0; x < 8; x++) {
            Check.due("X " + x, lawn.cell(x, 0, 0), Math.min(14, 10 + x));
        }
        Check.due("mow(14) again", lawn.mow(14), 0);
        Check.due("mow(0)", lawn.mow(0), 8);
        Check.due("mow(0) again", lawn.mow(0), 0);
        Check.due("no higher than they are", lawn.mow(99), 0);
        Check.due("no higher than they are", lawn.cell(3, 0, 0), 0);
        MownLawn top = Check.lawn("row cpc; height 99;");
        Check.due("mow(99) of 99", top.mow(99), 0);
        Check.due("mow(98) of 99", top.mow(98), 2);
    }
}
