import java.io.IOException;

/** A test for each sentence of the document's parts III (what would be) and IV (what was cut) that names a boundary. */
public final class QuestionBoundariesTest {
    private static final String THREE = "row ccc; row ccc; row ccc; ";
    private static final String WIDE = "row cccccccc; row cccccccc; row cccccccc; row cccccccc; row cccccccc; row cccccccc; ";
    private static final String DOT = THREE + "sign dot ooo oxo ooo; ";

    private QuestionBoundariesTest() { }

    public static void main(String[] args) throws IOException {
        Sentences.open();
        whatWouldBe();
        later();
        whatWasCut();
        Sentences.end();
    }

    private static void whatWouldBe() {
        Sentences.of("Promises 17 to 27", "III", "What would be (nothing happens).", QuestionBoundariesTest::nothingHappens);
        Sentences.of("Promise 17", "III",
            "BEST of a sign: the PLACE at which it stands out most, of alike ones by Y, then by X.",
            QuestionBoundariesTest::best);
        Sentences.of("Promise 18", "III", "GONE: behind how many WEEKS (0 .. 99) no WINDOW READS a sign at a PLACE.",
            QuestionBoundariesTest::gone);
        Sentences.of("Promise 19", "III", "WHEN: the fewest WEEKS w (0 .. d) to wait, so that, if it is CUT then, some WINDOW"
            + " READS it there d WEEKS from now, and none e WEEKS from now (d less than e, 60 at most).",
            QuestionBoundariesTest::when);
        Sentences.of("Promise 20", "III",
            "CUTS: the fewest CELLS to be GRAZED now, so that a WINDOW READS a sign at a PLACE at once.",
            QuestionBoundariesTest::cuts);
        Sentences.of("Promise 21", "III", "CARE: the CELL of GRASS to be FED once now, by which a sign at a PLACE is GONE"
            + " latest (never: latest of all), later than now; of alike ones by Y, then by X.", QuestionBoundariesTest::care);
        Sentences.of("Promise 22", "III", "LEVEL: the greatest height (0 .. 99) to which all may be MOWN now, so that no"
            + " WINDOW READS any sign at once.", QuestionBoundariesTest::level);
    }

    private static void nothingHappens() {
        MownLawn lawn = Check.lawn(DOT + "window a 0 2 5; window b 0 1 0; talk a b; rain 50 3; seed 8;"
            + " grows = if tall < 20 then 1 + wet + food else 0;");
        lawn.cut(0, 0, 0);
        lawn.weeks(1);
        lawn.nourish(1, 1);
        lawn.hold(1);
        String before = Seen.of(lawn);
        for (int twice = 0; twice < 2; twice++) {
            lawn.best(0, 0);
            lawn.gone(0, 0, 0);
            lawn.when(0, 0, 0, 3, 60);
            lawn.cuts(0, 0, 0, 0);
            lawn.care(0, 0, 0);
            lawn.level();
            lawn.quiet();
            lawn.knows(1, 0);
            lawn.then(1, 1, 60);
            lawn.all(60, 2, 0);
            lawn.year(0, 0, 60, 20);
            Check.same("nothing happens", Seen.of(lawn), before);
        }
        Check.due("undo()", lawn.undo(), true);
        Check.due("food", lawn.cell(1, 1, 2), 0);
        Check.due("restore(1)", lawn.restore(1), true);
        Check.due("food", lawn.cell(1, 1, 2), 2);
    }

    private static void bestIs(MownLawn lawn, int by, int x, int y) {
        Check.due("best(0, 0)", lawn.best(0, 0), by);
        Check.due("best(0, 1)", lawn.best(0, 1), x);
        Check.due("best(0, 2)", lawn.best(0, 2), y);
    }

    private static void best() {
        bestIs(Check.lawn(DOT), 0, 0, 0);
        bestIs(Check.lawn(WIDE + "sign dot ooo oxo ooo;"), 0, 0, 0);
        MownLawn last = Check.lawn(WIDE + "sign dot ooo oxo ooo;");
        last.cut(0, 5, 3);
        bestIs(last, 20, 5, 3);
        last.cut(0, 0, 3);
        bestIs(last, 20, 0, 3);
        last.cut(0, 5, 0);
        bestIs(last, 20, 5, 0);
        last.cut(0, 2, 0);
        bestIs(last, 20, 2, 0);
        // Below 0 at its best: the only cell that is left is the lowest one.
        MownLawn below = Check.lawn(THREE + "sign s xxx xox xxx; height 30;");
        below.graze(1, 1);
        bestIs(below, -30, 0, 0);
        MownLawn narrow = Check.lawn("row cc; row cc; row cc; sign s xxx xox xxx;");
        bestIs(narrow, -2000, -2000, -2000);
    }

    /** The dot that is cut grows out in one week alone, the one of this number. */
    private static MownLawn outIn(int week) {
        MownLawn lawn = Check.lawn(DOT + "window a 0 2 1; height 1; grows = if tall < 1 then (week + 1) / " + (week + 1)
            + " else 0;");
        lawn.cut(0, 0, 0);
        return lawn;
    }

    private static void gone() {
        MownLawn now = Check.lawn(DOT + "window a 0 2 1;");
        Check.due("now", now.gone(0, 0, 0), 0);
        Check.due("behind 1", outIn(0).gone(0, 0, 0), 1);
        Check.due("behind 2", outIn(1).gone(0, 0, 0), 2);
        Check.due("behind 98", outIn(97).gone(0, 0, 0), 98);
        Check.due("behind 99", outIn(98).gone(0, 0, 0), 99);
        Check.due("behind 100", outIn(99).gone(0, 0, 0), -2);
        Check.due("never", outIn(5000).gone(0, 0, 0), -2);
        MownLawn unseen = Check.lawn(DOT);
        unseen.cut(0, 0, 0);
        Check.due("no WINDOW at all", unseen.gone(0, 0, 0), 0);
        MownLawn dull = Check.lawn(DOT + "window a 0 2 99; window b 0 1 0; window c 0 2 3;"
            + " grows = if tall < 20 then 2 else 0;");
        dull.cut(0, 0, 0);
        Check.due("till the dullest eye that sees it reads it no more", dull.gone(0, 0, 0), 9);
    }

    private static void when() {
        // It is read up to 3 weeks behind the cut (20 - 3 w is 9 or more), and gone 4 weeks behind it.
        String grows = "grows = if tall < 20 then 3 else 0;";
        MownLawn lawn = Check.lawn(DOT + "window b 0 1 0; window a 0 2 9; " + grows);
        Check.due("d 0, e 1", lawn.when(0, 0, 0, 0, 1), -2);
        Check.due("d 0, e 3", lawn.when(0, 0, 0, 0, 3), -2);
        Check.due("d 0, e 4", lawn.when(0, 0, 0, 0, 4), 0);
        Check.due("d 3, e 4: at once", lawn.when(0, 0, 0, 3, 4), 0);
        Check.due("d 4, e 5", lawn.when(0, 0, 0, 4, 5), 1);
        Check.due("d 5, e 9: the fewest", lawn.when(0, 0, 0, 5, 9), 2);
        Check.due("d 59, e 60", lawn.when(0, 0, 0, 59, 60), 56);
        Check.due("d 0, e 60", lawn.when(0, 0, 0, 0, 60), 0);
        Check.due("d 60, e 61", lawn.when(0, 0, 0, 60, 61), -1);
        Check.due("d 59, e 61", lawn.when(0, 0, 0, 59, 61), -1);
        Check.due("d 59, e 59", lawn.when(0, 0, 0, 59, 59), -1);
        Check.due("d 0, e 0", lawn.when(0, 0, 0, 0, 0), -1);
        Check.due("d -1, e 4", lawn.when(0, 0, 0, -1, 4), -1);
        Check.due("d 4, e 3", lawn.when(0, 0, 0, 4, 3), -1);
        Check.due("least, greatest", lawn.when(0, 0, 0, Integer.MIN_VALUE, Integer.MAX_VALUE), -1);
        Check.due("greatest, least", lawn.when(0, 0, 0, Integer.MAX_VALUE, Integer.MIN_VALUE), -1);
        // Read in the very week of the cut alone: w is d.
        MownLawn once = Check.lawn(DOT + "window a 0 2 20; " + grows);
        Check.due("w is d", once.when(0, 0, 0, 5, 6), 5);
        Check.due("w is d, 59", once.when(0, 0, 0, 59, 60), 59);
        // It is there already, and grows out: not the cut of now, but that one too is to be gone.
        MownLawn twice = Check.lawn(DOT + "window a 0 2 9; " + grows);
        twice.cut(0, 0, 0);
        Check.due("cut again", twice.when(0, 0, 0, 2, 5), 0);
        twice.weeks(3);
        Check.due("in week 3", twice.when(0, 0, 0, 4, 5), 1);
        // All grows by 1 a week from 0 on: what is left is 10 higher if it is cut in week 10, or later.
        MownLawn young = Check.lawn(DOT + "window a 0 2 10; height 0; grows = if week < 30 then 1 else 2 * across * (2 - across)"
            + " - 1;");
        Check.due("till it is high enough", young.when(0, 0, 0, 30, 60), 10);
        Check.due("never high enough", young.when(0, 0, 0, 9, 60), -2);
        // The middle sinks or grows by the week: gone in 2 and 3 alone, read again from 4 on.
        MownLawn again = Check.lawn(DOT + "window a 0 2 20; grows = if week < 1 then 0 else if week < 2 then 5 * (across *"
            + " (2 - across) * down * (2 - down)) else if week < 3 then 0 else 0 - 5 * (across * (2 - across) * down"
            + " * (2 - down));");
        Check.due("gone in 2", again.when(0, 0, 0, 1, 2), 0);
        Check.due("gone in 3", again.when(0, 0, 0, 1, 3), 0);
        Check.due("read again in 4", again.when(0, 0, 0, 1, 4), -2);
        MownLawn never = Check.lawn(DOT + "window a 0 2 9; grows = 0;");
        Check.due("never gone", never.when(0, 0, 0, 0, 60), -2);
        MownLawn unread = Check.lawn(DOT + "window a 0 2 21; grows = 0;");
        Check.due("never read", unread.when(0, 0, 0, 0, 60), -2);
    }

    private static void cuts() {
        String text = THREE + "sign l xoo xoo xxx; sign x xxx xox xxx; window a 0 2 %d; height 20; grows = sun + across;";
        MownLawn sharp = Check.lawn(text.formatted(20));
        Check.due("20 high, SHARP 20", sharp.cuts(0, 0, 0, 0), 5);
        Check.due("20 high, SHARP 20, eight of nine", sharp.cuts(0, 1, 0, 0), 8);
        Check.due("20 high, SHARP 21", Check.lawn(text.formatted(21)).cuts(0, 0, 0, 0), -2);
        Check.due("20 high, SHARP 0", Check.lawn(text.formatted(0)).cuts(0, 0, 0, 0), 0);
        Check.due("20 high, SHARP 1", Check.lawn(text.formatted(1)).cuts(0, 0, 0, 0), 5);
        for (int x = 0; x < 3; x++) {
            sharp.graze(x, 2);
            Check.due("grazed up to X " + x, sharp.cuts(0, 0, 0, 0), 4 - x);
        }
        sharp.cut(0, 0, 0);
        Check.due("read already", sharp.cuts(0, 0, 0, 0), 0);
        sharp.graze(1, 0);
        Check.due("one that must be left is grazed", sharp.cuts(0, 0, 0, 0), -2);
        // Behind a week: 22, 23, 24 high by X. Left: the middle, 23; so up to 23 - SHARP may stay.
        MownLawn one = Check.lawn(text.formatted(0));
        one.weeks(1);
        Check.due("SHARP 0: what is as high as 23 may stay", one.cuts(0, 1, 0, 0), 3);
        MownLawn two = Check.lawn(text.formatted(1));
        two.weeks(1);
        Check.due("SHARP 1: what is as high as 22 may stay", two.cuts(0, 1, 0, 0), 5);
        MownLawn three = Check.lawn(text.formatted(2));
        three.weeks(1);
        Check.due("SHARP 2", three.cuts(0, 1, 0, 0), 8);
        MownLawn sees = Check.lawn("row cccc; row cccc; row cccc; sign dot ooo oxo ooo; window a 1 3 5; window b 0 2 5;");
        Check.due("X 0 is not seen from 1", sees.cuts(0, 0, 0, 0), -2);
        Check.due("X 1 + 2 is not seen up to 2", sees.cuts(1, 0, 1, 0), -2);
        Check.due("X 1 is seen", sees.cuts(0, 0, 1, 0), 1);
        Check.due("X 0 is seen", sees.cuts(1, 0, 0, 0), 1);
        // Each of the nine counts, as the least one that is left, and as one that is too tall.
        for (int i = 0; i < 9; i++) {
            StringBuilder cells = new StringBuilder("ooooooooo");
            cells.setCharAt((i + 1) % 9, 'x');
            cells.setCharAt((i + 4) % 9, 'x');
            MownLawn low = Check.lawn(THREE + "sign s " + cells.substring(0, 3) + " " + cells.substring(3, 6) + " "
                + cells.substring(6) + "; window a 0 2 5;");
            Check.due("left, " + i, low.cuts(0, 0, 0, 0), 2);
            low.graze((i + 1) % 9 % 3, (i + 1) % 9 / 3);
            Check.due("one is cut, " + i, low.cuts(0, 0, 0, 0), 1);
            low.graze(i % 3, i / 3);
            Check.due("the one at " + i + " is too low", low.cuts(0, 0, 0, 0), -2);
        }
        MownLawn paved = Check.lawn("row ppp; row pcp; row ppp; sign s xxx xox xxx; sign t ooo oxo ooo; window a 0 2 9;");
        Check.due("PAVED ones need no cut", paved.cuts(0, 0, 0, 0), 0);
        Check.due("PAVED ones that are left", paved.cuts(0, 1, 0, 0), -2);
    }

    private static void care() {
        // One 'x' of GRASS (sun b) grows by 1 a week, but for the week in which it has food; the one 'o' (sun a)
        // grows by 1 with food alone. Either way it is gone a week later: at 20 - w below 10, in 11, or in 12.
        String laws = " window w 0 2 10; feeds = 1; grows = if food < 1 then sun else 1 - sun;";
        MownLawn across = Check.lawn("row ppp; row bap; row ppp; sign s xxx xox xxx;" + laws);
        across.cut(0, 0, 0);
        Check.due("gone", across.gone(0, 0, 0), 11);
        Check.due("alike: by X", across.care(0, 0, 0), 10);
        MownLawn down = Check.lawn("row ppb; row app; row ppp; sign s xxx oxx xxx;" + laws);
        down.cut(0, 0, 0);
        Check.due("alike: by Y, then by X", down.care(0, 0, 0), 2);
        MownLawn turned = Check.lawn("row ppa; row bpp; row ppp; sign s xxo xxx xxx;" + laws);
        turned.cut(0, 0, 0);
        Check.due("alike: by Y, then by X, the other way", turned.care(0, 0, 0), 2);
        turned.nourish(2, 0);
        Check.due("fed: gone", turned.gone(0, 0, 0), 12);
        // The 'o' would stand 99 high, the 'x' stops at 15: never.
        MownLawn never = Check.lawn("row ppb; row app; row ppp; sign s xxx oxx xxx; window w 0 2 10; feeds = 9;"
            + " grows = if 0 < food then (1 - sun) * 9 else if tall < 15 then sun else 0;");
        never.cut(0, 0, 0);
        Check.due("gone", never.gone(0, 0, 0), 11);
        Check.due("never: latest of all", never.care(0, 0, 0), 10);
        never.nourish(0, 1);
        Check.due("fed: never gone", never.gone(0, 0, 0), -2);
        Check.due("nothing is later than never", never.care(0, 0, 0), -2);
        // 99 is not never.
        MownLawn last = Check.lawn(THREE + "sign s xxx xox xxx; window w 0 2 1; height 1;"
            + " grows = if 0 < food then 9 else if tall < 1 then (week + 1) / 99 else 0;");
        last.cut(0, 0, 0);
        Check.due("gone in 99", last.gone(0, 0, 0), 99);
        Check.due("never is later than 99", last.care(0, 0, 0), 11);
        MownLawn now = Check.lawn("row ppb; row app; row ppp; sign s xxx oxx xxx; window w 0 2 21;"
            + " feeds = 1; grows = if food < 1 then sun else 1 - sun;");
        Check.due("gone now: no food makes it later", now.care(0, 0, 0), -2);
        MownLawn sooner = Check.lawn(DOT + "window w 0 2 10; grows = if tall < 20 then 1 + food else 0;");
        sooner.cut(0, 0, 0);
        Check.due("sooner by food, not later", sooner.care(0, 0, 0), -2);
        MownLawn bare = Check.lawn("row ppp; row ppp; row ppp; sign s xxx oxx xxx; window w 0 2 0; grows = food;");
        Check.due("no GRASS", bare.care(0, 0, 0), -2);
    }

    private static void level() {
        MownLawn none = Check.lawn(DOT);
        Check.due("no WINDOW", none.level(), 99);
        MownLawn lawn = Check.lawn(DOT + "window a 0 2 20; height 99; grows = 0;");
        Check.due("nothing is read as it is", lawn.level(), 99);
        lawn.cut(0, 0, 0);
        Check.due("19 high is not read by 20", lawn.level(), 19);
        lawn.mow(19);
        Check.due("nothing is read any more", lawn.level(), 99);
        MownLawn sharpest = Check.lawn(DOT + "window a 0 2 99; height 99;");
        sharpest.cut(0, 0, 0);
        Check.due("98", sharpest.level(), 98);
        MownLawn one = Check.lawn(DOT + "window a 0 2 1;");
        one.cut(0, 0, 0);
        Check.due("0", one.level(), 0);
        MownLawn dull = Check.lawn(DOT + "window a 0 2 0;");
        Check.due("none: 0 is read by 0", dull.level(), -2);
        dull.graze(0, 0);
        Check.due("not read as it is", dull.level(), 99);
        MownLawn last = Check.lawn(WIDE + "sign s xxx xxx xxx; sign dot ooo oxo ooo; window a 0 0 0; window b 5 7 7;");
        last.cut(1, 5, 3);
        Check.due("the last of all PLACES, signs, WINDOWS", last.level(), 6);
    }

    private static void later() {
        Sentences.of("Promise 23", "III", "QUIET: behind how many WEEKS (0 .. 200) no WINDOW READS any sign.",
            QuestionBoundariesTest::quiet);
        Sentences.of("Promise 24", "III", "KNOWS: behind how many WEEKS (0 .. 200) a WINDOW knows a sign.",
            QuestionBoundariesTest::knows);
        Sentences.of("Promises 25 and 26", "III", "IN n WEEKS (0 .. 60): how high a CELL is; the tallest one (by Y, then by"
            + " X); all heights together; how many CELLS of GRASS are so high or higher.", QuestionBoundariesTest::inWeeks);
        Sentences.of("Promise 27", "III", "YEAR by s SEEDS (1 .. 20) from the text's SEED on: in how many of them a WINDOW"
            + " READS a sign anywhere n WEEKS from now (0 .. 60).", QuestionBoundariesTest::year);
    }

    private static void quiet() {
        Check.due("no WINDOW", Check.lawn(DOT).quiet(), 0);
        Check.due("behind 1", outIn(0).quiet(), 1);
        Check.due("behind 100", outIn(99).quiet(), 100);
        Check.due("behind 199", outIn(198).quiet(), 199);
        Check.due("behind 200", outIn(199).quiet(), 200);
        Check.due("behind 201", outIn(200).quiet(), -2);
        Check.due("never", outIn(5000).quiet(), -2);
        MownLawn late = outIn(250);
        late.weeks(51);
        Check.due("from now on, not from the text's begin", late.quiet(), 200);
    }

    private static void knows() {
        // The middle sinks below the others in one week alone.
        String sinks = "row ccc; row cbc; row ccc; sign dot ooo oxo ooo; window a 0 2 1; window b 0 1 0; talk a b; height 1;"
            + " grows = (sun - 2) * ((week + 1) / ";
        int[] weeks = {1, 2, 199, 200};
        for (int week : weeks) {
            MownLawn lawn = Check.lawn(sinks + week + ");");
            Check.due("behind " + week, lawn.knows(0, 0), week);
            Check.due("behind " + week + ", by a TALK", lawn.knows(1, 0), week == 200 ? -2 : week + 1);
        }
        MownLawn late = Check.lawn(sinks + "201);");
        Check.due("behind 201", late.knows(0, 0), -2);
        late.weeks(1);
        Check.due("behind 200 from now", late.knows(0, 0), 200);
        MownLawn now = Check.lawn(sinks + "1);");
        now.weeks(1);
        Check.due("now", now.knows(0, 0), 0);
        Check.due("next week", now.knows(1, 0), 1);
        MownLawn first = Check.lawn(DOT + "window a 0 2 0;");
        Check.due("read now, but not yet known", first.knows(0, 0), 1);
    }

    private static void inWeeks() {
        MownLawn lawn = Check.lawn("row pbcb; row bbbc; height 5; grows = sun;");
        Check.due("then, 0", lawn.then(2, 0, 0), 5);
        Check.due("then, 1", lawn.then(2, 0, 1), 7);
        Check.due("then, 60", lawn.then(1, 0, 60), 65);
        Check.due("then, 60, 99 at most", lawn.then(2, 0, 60), 99);
        Check.due("then, 61", lawn.then(1, 0, 61), -1);
        Check.due("then, -1", lawn.then(1, 0, -1), -1);
        Check.due("tallest, 0", lawn.all(0, 0, 0), 5);
        Check.due("where, 0: by Y, then by X", lawn.all(0, 1, 0), 1);
        Check.due("where, 1: by Y first", lawn.all(1, 1, 0), 2);
        Check.due("tallest, 60", lawn.all(60, 0, 0), 99);
        Check.due("together, 0", lawn.all(0, 2, 0), 35);
        Check.due("together, 60", lawn.all(60, 2, 0), 5 * 65 + 2 * 99);
        Check.due("7 or higher, 1", lawn.all(1, 3, 7), 2);
        Check.due("8 or higher, 1", lawn.all(1, 3, 8), 0);
        Check.due("6 or higher, 1", lawn.all(1, 3, 6), 7);
        Check.due("0 or higher: of GRASS alone", lawn.all(0, 3, 0), 7);
        Check.due("99 or higher, 60", lawn.all(60, 3, 99), 2);
        Check.due("all, 61", lawn.all(61, 2, 0), -1);
        Check.due("all, -1", lawn.all(-1, 2, 0), -1);
        MownLawn last = Check.lawn("row abc; row aad; row aaa; row aae;");
        Check.due("where: the last of all", last.all(1, 1, 0), 32);
        Check.due("how high: the last of all", last.all(1, 0, 0), 24);
        Check.due("without sun", last.all(1, 3, 20), 12);
        MownLawn zero = Check.lawn("row pc; row cc; height 0; grows = 0;");
        Check.due("0 high: a PAVED one comes first", zero.all(9, 1, 0), 0);
        Check.due("0 high", zero.all(9, 0, 0), 0);
        MownLawn full = Check.lawn(WIDE + "height 99;");
        Check.due("the greatest sum", full.all(60, 2, 0), 48 * 99);
        Check.due("all of them", full.all(60, 3, 99), 48);
    }

    private static int lot(int seed, int week) {
        int h = (seed ^ 97) * 1103515245 + 12345;
        h ^= h >>> 15;
        h = (h ^ 4 * week) * 1103515245 + 12345;
        h ^= h >>> 15;
        return (h >>> 1) % 100;
    }

    private static void year() {
        // Rain alone lets the middle sink.
        String text = "row ccc; row cbc; row ccc; sign dot ooo oxo ooo; window a 0 2 1; grows = (sun - 2) * wet; rain 50 1;";
        for (int seed : new int[] {0, 500, 9990, 9999}) {
            MownLawn lawn = Check.lawn(text + "seed " + seed + ";");
            int due = 0;
            for (int s = 1; s <= 20; s++) {
                due += lot(seed + s - 1, 0) < 50 ? 1 : 0;
                Check.due("seed " + seed + ", s " + s, lawn.year(0, 0, 1, s), due);
            }
            Check.due("s 0", lawn.year(0, 0, 1, 0), -1);
            Check.due("s 21", lawn.year(0, 0, 1, 21), -1);
            Check.due("n 0", lawn.year(0, 0, 0, 20), 0);
            Check.due("n 60: it rained once at least", lawn.year(0, 0, 60, 20), 20);
            Check.due("n -1", lawn.year(0, 0, -1, 20), -1);
            Check.due("n 61", lawn.year(0, 0, 61, 20), -1);
        }
        MownLawn cut = Check.lawn(text);
        cut.cut(0, 0, 0);
        Check.due("n 0, cut", cut.year(0, 0, 0, 20), 20);
        // The weeks are those that come: LOTS of week 5 on, not of week 0 on.
        MownLawn dry = Check.lawn(text.replace("wet", "wet * (week / 5)") + "seed 77;");
        dry.weeks(5);
        int due = 0;
        for (int s = 0; s < 20; s++) {
            due += lot(77 + s, 5) < 50 ? 1 : 0;
        }
        Check.due("week 5's LOTS", dry.year(0, 0, 1, 20), due);
    }

    private static void whatWasCut() {
        Sentences.of("Promises 28 to 32", "IV", "TOLD: how high a CELL was measured to be now, 20 at most, numbered from 0 on;"
            + " KNOWN by k: the first k.", QuestionBoundariesTest::told);
        Sentences.of("Promises 30 to 32", "IV",
            "BLADES: a sign, a PLACE, and how many weeks ago (0 .. 30, no more than there were):",
            QuestionBoundariesTest::weeksAgo);
        Sentences.of("Promises 30 to 32", "IV",
            "it was CUT then, from the text's begin on nothing else being done, so that all that is KNOWN is so now:",
            QuestionBoundariesTest::nothingElse);
        Sentences.of("Promise 31", "IV", "SURE: what is one and the same in all.", QuestionBoundariesTest::sure);
        Sentences.of("Promise 32", "IV", "ASK: the CELL of which, once it is measured, fewest are left, at worst; of alike"
            + " ones by Y, then by X.", QuestionBoundariesTest::ask);
    }

    private static void told() {
        MownLawn lawn = Check.lawn("row cccc; row cccc; row cccc; sign dot ooo oxo ooo; height 10; grows = 1;");
        lawn.weeks(5);
        for (int i = 0; i < 18; i++) {
            Check.due("number", lawn.tell(0, 0, 15), i);
        }
        Check.due("number", lawn.tell(1, 1, 3), 18);
        Check.due("number", lawn.tell(2, 1, 2), 19);
        Check.due("20 are there", lawn.tell(0, 0, 15), -1);
        Check.due("count(10)", lawn.count(10), 20);
        Check.due("the first 0", lawn.blades(0), 12);
        Check.due("the first 18", lawn.blades(18), 12);
        Check.due("the first 19", lawn.blades(19), 1);
        Check.due("the first 20", lawn.blades(20), 0);
        Check.due("the first 21", lawn.blades(21), -1);
        Check.due("sure by 19", lawn.sure(19, 3), 3);
        Check.due("forget()", lawn.forget(), 20);
        Check.due("from 0 on", lawn.tell(2, 1, 2), 0);
        Check.due("the first 1", lawn.sure(1, 1), 1);
    }

    private static void weeksAgo() {
        // The cut one is as high as it is weeks ago.
        MownLawn lawn = Check.lawn(DOT + "height 99; grows = if tall < 99 then 1 else 0;");
        Check.due("week 0: now alone", lawn.blades(0), 1);
        Check.due("week 0: now alone", lawn.sure(0, 3), 0);
        lawn.weeks(1);
        Check.due("week 1", lawn.blades(0), 2);
        lawn.weeks(28);
        Check.due("week 29", lawn.blades(0), 30);
        lawn.weeks(1);
        Check.due("week 30", lawn.blades(0), 31);
        lawn.weeks(1);
        Check.due("week 31", lawn.blades(0), 31);
        lawn.tell(1, 1, 30);
        Check.due("30 weeks ago", lawn.sure(1, 3), 30);
        lawn.forget();
        lawn.tell(1, 1, 31);
        Check.due("31 weeks ago", lawn.blades(1), 0);
        lawn.forget();
        lawn.tell(1, 1, 0);
        Check.due("0 weeks ago", lawn.sure(1, 3), 0);
        lawn.undo();
        lawn.undo();
        lawn.forget();
        lawn.tell(1, 1, 29);
        Check.due("week 29, 29 weeks ago: as the text began", lawn.sure(1, 3), 29);
        lawn.forget();
        lawn.tell(1, 1, 30);
        Check.due("week 29, 30 weeks ago", lawn.blades(1), 0);
        lawn.weeks(60);
        lawn.weeks(60);
        Check.due("week 149, 30 weeks ago", lawn.sure(1, 3), 30);
        // Cut when all was 8 high: 1 high behind that week (8 / 5), 30 high 29 weeks later.
        MownLawn old = Check.lawn("row aaa; row aaa; row aaa; sign dot ooo oxo ooo; height 5;"
            + " grows = if tall < 1 then beside / 5 else 1;");
        old.weeks(33);
        old.tell(1, 1, 30);
        Check.due("30 weeks ago, by how all was then", old.blades(1), 1);
        Check.due("30 weeks ago, by how all was then", old.sure(1, 3), 30);
        // 0 high at first: what is cut later is not as it was then.
        MownLawn young = Check.lawn(DOT + "height 0; grows = 1;");
        young.weeks(9);
        young.tell(1, 1, 2);
        Check.due("HEIGHT 0, cut 2 weeks ago", young.sure(1, 3), 2);
        // Back and forth in time.
        MownLawn time = Check.lawn(DOT + "height 0; grows = if tall < week then 1 else 0;");
        for (int week : new int[] {0, 2, 5, 40, 41, 100}) {
            time.weeks(Math.max(0, Math.min(60, week - time.count(4))));
            if (time.count(4) < week) {
                time.weeks(week - time.count(4));
            }
            bladesAt(time);
        }
        time.undo();
        time.undo();
        bladesAt(time);
        time.undo();
        bladesAt(time);
        time.undo();
        bladesAt(time);
        MownLawn most = Check.lawn(WIDE + "sign a xoo ooo ooo; sign b oxo ooo ooo; sign c oox ooo ooo; sign d ooo xoo ooo;");
        most.weeks(60);
        Check.due("4 signs, 24 PLACES, 31 weeks", most.blades(0), 4 * 24 * 31);
        Check.due("no sign", Check.lawn(WIDE).blades(0), 0);
        Check.due("no PLACE", Check.lawn("row cc; row cc; row cc; sign a xxx ooo xxx;").blades(0), 0);
    }

    /** What stands at (0, 0) is all the same for each guess: as high as it is on this lawn, to which nothing was done. */
    private static void bladesAt(MownLawn lawn) {
        int week = lawn.count(4);
        lawn.forget();
        lawn.tell(0, 0, lawn.cell(0, 0, 0));
        Check.due("week " + week, lawn.blades(1), Math.min(31, week + 1));
        lawn.tell(1, 1, 0);
        Check.due("week " + week + ", cut", lawn.blades(2) > 0, true);
    }

    /** What was truly cut, at each end of the lawn, is among the BLADES; beside spreads it, but not off the lawn. */
    private static void cutAtTheEnds() {
        String[] lawns = {"row abcdefgh; row bcdefghi; row cdefghij; row defghijk; row efghijkl; row fghijklm;",
            "row hgfedcba; row ihgfedcb; row jihgfedc; row kjihgfed; row lkjihgfe; row mlkjihgf;",
            "row fghijklm; row efghijkl; row defghijk; row cdefghij; row bcdefghi; row abcdefgh;",
            "row mlkjihgf; row lkjihgfe; row kjihgfed; row jihgfedc; row ihgfedcb; row hgfedcba;"};
        for (int where : new int[] {0, 5, 30, 35, 12}) {
            for (int i = 0; i < 28; i++) {
                cutAt(lawns[i / 7], where, i % 7);
            }
        }
    }

    private static void cutAt(String rows, int where, int ago) {
        MownLawn lawn = Check.lawn(rows + "sign s xxx xox xxx; height 40; rain 40 3; seed 12;"
            + " grows = (beside - tall) / 3 - sun / 4 + wet;");
        lawn.weeks(6 - ago);
        lawn.cut(0, where % 10, where / 10);
        lawn.weeks(ago);
        for (int i = 0; i < 20; i++) {
            int x = Math.max(0, Math.min(7, where % 10 + i % 5 - 1));
            int y = Math.min(5, where / 10 + i / 5);
            lawn.tell(x, y, lawn.cell(x, y, 0));
        }
        String told = rows + " cut at " + where + ", " + ago + " weeks ago: ";
        Check.due(told + "blades(20)", lawn.blades(20), 1);
        Check.due(told + "sure(20, 1)", lawn.sure(20, 1), where % 10);
        Check.due(told + "sure(20, 2)", lawn.sure(20, 2), where / 10);
        Check.due(told + "sure(20, 3)", lawn.sure(20, 3), ago);
    }

    private static void nothingElse() {
        cutAtTheEnds();
        // 0 high at least: what sinks stays cut.
        MownLawn sinks = Check.lawn(DOT + "height 10; grows = 0 - 1;");
        sinks.weeks(3);
        sinks.tell(1, 1, 0);
        sinks.tell(0, 0, 7);
        Check.due("what sinks stays 0 high", sinks.blades(2), 4);
        MownLawn lawn = Check.lawn(DOT + "height 10; grows = 1;");
        lawn.weeks(2);
        // None of these is among what may have been done.
        lawn.cut(0, 0, 0);
        lawn.graze(0, 0);
        lawn.mow(3);
        lawn.nourish(2, 2);
        lawn.weeks(2);
        lawn.tell(0, 0, 14);
        Check.due("all but the middle is as if nothing was done", lawn.blades(1), 5);
        lawn.tell(1, 1, 2);
        Check.due("cut 2 weeks ago", lawn.blades(2), 1);
        Check.due("cut 2 weeks ago", lawn.sure(2, 3), 2);
        lawn.tell(2, 2, lawn.cell(2, 2, 0));
        Check.due("that one was mown", lawn.blades(3), 0);
        // So now: what was told stays, and is held against the week that it is.
        lawn.weeks(1);
        Check.due("a week later (0, 0) is 15 high", lawn.blades(1), 0);
        lawn.undo();
        Check.due("undone", lawn.blades(1), 5);
        // A sign without an 'x' is cut without a trace: each of its weeks is among them.
        MownLawn trace = Check.lawn(THREE + "sign no ooo ooo ooo; height 10; grows = 1;");
        trace.weeks(4);
        trace.tell(1, 1, 14);
        Check.due("without a trace", trace.blades(1), 5);
        trace.tell(1, 1, 13);
        Check.due("not so", trace.blades(2), 0);
    }

    private static void sure() {
        MownLawn lawn = Check.lawn("row cccc; row cccc; row cccc; row cccc; sign a ooo oxo ooo; sign b ooo oox ooo;"
            + " height 10; grows = 1;");
        lawn.weeks(3);
        for (int what = 0; what < 4; what++) {
            Check.due("nothing is KNOWN: sure(0, " + what + ")", lawn.sure(0, what), -2);
        }
        // (2, 1): a at 1, 0 or b at 0, 0, two weeks ago.
        lawn.tell(2, 1, 2);
        Check.due("two of them", lawn.blades(1), 2);
        int[] due = {-2, -2, 0, 2};
        for (int what = 0; what < 4; what++) {
            Check.due("two: sure(1, " + what + ")", lawn.sure(1, what), due[what]);
        }
        lawn.forget();
        lawn.tell(3, 2, 0);
        int[] one = {1, 1, 1, 0};
        Check.due("one of them", lawn.blades(1), 1);
        for (int what = 0; what < 4; what++) {
            Check.due("one: sure(1, " + what + ")", lawn.sure(1, what), one[what]);
        }
        lawn.tell(3, 2, 1);
        for (int what = 0; what < 4; what++) {
            Check.due("none: sure(2, " + what + ")", lawn.sure(2, what), -2);
        }
    }

    private static void ask() {
        MownLawn lawn = Check.lawn("row cccc; row cccc; row cccc; sign dot ooo oxo ooo; height 10; grows = 1;");
        lawn.weeks(3);
        // (1, 1) and (2, 1): 4 of 8 are left at worst; any other: all 8.
        Check.due("of alike ones by X", lawn.ask(0), 11);
        lawn.tell(1, 1, 13);
        Check.due("the other one", lawn.ask(1), 12);
        lawn.tell(2, 1, 0);
        Check.due("one is left, whatever is measured: by Y, then by X", lawn.ask(2), 0);
        lawn.tell(2, 1, 1);
        Check.due("no BLADES", lawn.ask(3), -2);
        MownLawn column = Check.lawn("row ccc; row ccc; row ccc; row ccc; sign s xoo ooo ooo; sign t oox ooo ooo;"
            + " height 10; grows = 1;");
        // s at 0, 0 and 0, 1; t at 0, 0 and 0, 1: four cells alike, (0, 0) (2, 0) (0, 1) (2, 1).
        Check.due("of alike ones by Y, then by X", column.ask(0), 0);
        column.tell(0, 0, 10);
        column.tell(0, 1, 10);
        Check.due("t alone", column.ask(2), 2);
        MownLawn high = Check.lawn("row cccc; row cccc; row cccc; sign dot ooo oxo ooo; height 99; grows = 0;");
        Check.due("99 high", high.ask(0), 11);
        MownLawn low = Check.lawn(DOT + "grows = 1;");
        low.weeks(1);
        Check.due("0 or 1 high", low.ask(0), 11);
        MownLawn same = Check.lawn(WIDE + "sign a ooo ooo ooo; sign b ooo ooo ooo; sign c ooo ooo ooo; sign d ooo ooo ooo;");
        same.weeks(60);
        Check.due("as many as can be", same.blades(0), 4 * 24 * 31);
        Check.due("as many as can be, all alike", same.ask(0), 0);
        MownLawn paved = Check.lawn("row pcc; row ccc; row ccc; sign no ooo ooo ooo;");
        Check.due("all alike: a PAVED one comes first", paved.ask(0), 0);
        // At worst: (0, 0) tells one of four, any of (1, 0) (2, 0) no more; (1, 1) halves them.
        MownLawn worst = Check.lawn(THREE + "sign a xoo oxo ooo; sign b oxo oxo ooo; sign c oox ooo ooo; sign d ooo ooo xoo;");
        Check.due("at worst", worst.ask(0), 11);
    }
}
