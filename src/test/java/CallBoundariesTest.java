import java.io.IOException;

/** A test for each sentence under the document's promises that names a boundary: what is refused, full, empty, too much. */
public final class CallBoundariesTest {
    private static final String THREE = "row ccc; row ccc; row ccc; ";
    private static final String WIDE = "row cccccccc; row cccccccc; row cccccccc; row cccccccc; row cccccccc; row cccccccc; ";
    private static final String DOT = THREE + "sign dot ooo oxo ooo; ";
    private static final int BLANKS = 0x20202020;

    private CallBoundariesTest() { }

    public static void main(String[] args) throws IOException {
        Sentences.open();
        Sentences.holds("All promises", "## What it is ", "An object is used for at most 512 calls after it has been made;",
            CallBoundariesTest::lastCall);
        tape();
        looks();
        done();
        wouldBe();
        clues();
        slots();
        Sentences.end();
    }

    /** Numbers that are not among least .. most, the nearest ones first. */
    private static int[] outside(int least, int most) {
        return new int[] {least - 1, most + 1, least - 2, most + 2, least - 32, most + 32, least - 256, most + 256,
            least - 65536, most + 65536, Integer.MIN_VALUE, Integer.MAX_VALUE, Integer.MIN_VALUE + 1,
            Integer.MAX_VALUE - 1, Integer.MIN_VALUE / 2, Integer.MAX_VALUE / 2};
    }

    private static void lastCall() {
        String text = WIDE + "sign dot ooo oxo ooo; window a 0 7 9; grows = 0;";
        MownLawn lawn = Check.lawn(text);
        int calls = (text.length() + 19) / 20 + 2;
        Check.due("cut(0, 0, 0)", lawn.cut(0, 0, 0), 1);
        calls++;
        int week = 0;
        while (calls < 510) {
            lawn.weeks(60);
            week += 60;
            calls++;
        }
        Check.due("the 511th", lawn.count(4), week);
        Check.due("the 512th", lawn.reads(0, 0, 0), 0);
    }

    // -- the tape

    private static void tape() {
        Sentences.of(1, "No lawn.", CallBoundariesTest::noLawn);
        Sentences.of(2, "Twenty bytes, the highest of a first, come behind the tape: how many it has.",
            CallBoundariesTest::twentyBytes);
        Sentences.of(2, "NONE, and nothing comes, if it would have more than 2,000.", CallBoundariesTest::tapeIsFull);
        Sentences.of(3, "The last n bytes of the tape go: how many it has.", CallBoundariesTest::bytesGo);
        Sentences.of(3, "NONE, and nothing goes, if it has not so many, or n is below 0.", CallBoundariesTest::notSoMany);
        Sentences.of(4, "The tape, which is empty then, is read: 0, or the number of its FAULT.",
            CallBoundariesTest::emptyThen);
        Sentences.of(5, "The byte of the latest read()'s FAULT; NONE without.", CallBoundariesTest::latestFault);
    }

    private static void noLawn() {
        MownLawn lawn = new MownLawn();
        for (int what = 0; what < 14; what++) {
            Check.due("count(" + what + ")", lawn.count(what), 0);
        }
        Check.due("place()", lawn.place(), -1);
        Check.due("cell(0, 0, 0)", lawn.cell(0, 0, 0), -100);
        Check.due("sign(0, 0)", lawn.sign(0, 0), -1);
        Check.due("window(0, 0)", lawn.window(0, 0), -1);
        Check.due("contrast(0, 0, 0)", lawn.contrast(0, 0, 0), -2000);
        Check.due("reads(0, 0, -1)", lawn.reads(0, 0, -1), -1);
        Check.due("cut(0, 0, 0)", lawn.cut(0, 0, 0), -1);
        Check.due("graze(0, 0)", lawn.graze(0, 0), -1);
        Check.due("nourish(0, 0)", lawn.nourish(0, 0), -1);
        Check.due("undo()", lawn.undo(), false);
        Check.due("best(0, 0)", lawn.best(0, 0), -2000);
        Check.due("gone(0, 0, 0)", lawn.gone(0, 0, 0), -1);
        Check.due("when(0, 0, 0, 0, 1)", lawn.when(0, 0, 0, 0, 1), -1);
        Check.due("cuts(0, 0, 0, 0)", lawn.cuts(0, 0, 0, 0), -1);
        Check.due("care(0, 0, 0)", lawn.care(0, 0, 0), -1);
        Check.due("level()", lawn.level(), 99);
        Check.due("quiet()", lawn.quiet(), 0);
        Check.due("knows(0, 0)", lawn.knows(0, 0), -1);
        Check.due("then(0, 0, 0)", lawn.then(0, 0, 0), -1);
        Check.due("year(0, 0, 0, 1)", lawn.year(0, 0, 0, 1), -1);
        Check.due("tell(0, 0, 0)", lawn.tell(0, 0, 0), -1);
        Check.due("forget()", lawn.forget(), 0);
        Check.due("blades(0)", lawn.blades(0), 0);
        Check.due("sure(0, 0)", lawn.sure(0, 0), -2);
        Check.due("ask(0)", lawn.ask(0), -2);
        Check.due("restore(0)", lawn.restore(0), false);
        Check.due("mow(0): none is taller", lawn.mow(0), 0);
        Check.due("weeks(60)", lawn.weeks(60), 60);
        Check.due("hold(0)", lawn.hold(0), true);
        Check.due("read() of an empty tape", lawn.read(), 0);
    }

    private static void twentyBytes() {
        for (int at = 0; at < 20; at++) {
            for (int odd : new int[] {0, 1, 127, 128, 255}) {
                MownLawn lawn = new MownLawn();
                int[] fours = {BLANKS, BLANKS, BLANKS, BLANKS, BLANKS};
                int shift = 24 - 8 * (at % 4);
                fours[at / 4] = fours[at / 4] & ~(255 << shift) | odd << shift;
                Check.due("feed", lawn.feed(fours[0], fours[1], fours[2], fours[3], fours[4]), 20);
                Check.due("byte " + odd + " at " + at + ": read()", lawn.read(), 1);
                Check.due("byte " + odd + " at " + at + ": place()", lawn.place(), at);
            }
        }
        MownLawn lawn = new MownLawn();
        String text = "row abc; height 042;";
        Check.due("feed", lawn.feed(Check.four(text, 0), Check.four(text, 4), Check.four(text, 8), Check.four(text, 12),
            Check.four(text, 16)), 20);
        Check.due("behind the tape", lawn.feed(BLANKS, BLANKS, BLANKS, BLANKS, BLANKS), 40);
        Check.due("read()", lawn.read(), 0);
        Check.due("count(0)", lawn.count(0), 3);
        Check.due("cell(2, 0, 0)", lawn.cell(2, 0, 0), 42);
    }

    private static void tapeIsFull() {
        MownLawn lawn = new MownLawn();
        for (int i = 1; i <= 99; i++) {
            Check.due("feed", lawn.feed(BLANKS, BLANKS, BLANKS, BLANKS, BLANKS), 20 * i);
        }
        Check.due("feed up to 2,000", lawn.feed(BLANKS, BLANKS, BLANKS, BLANKS, BLANKS), 2000);
        for (int left = 0; left < 20; left++) {
            Check.due("feed with room for " + left, lawn.feed(-1, -1, -1, -1, -1), -1);
            Check.due("nothing comes", lawn.count(8), 2000 - left);
            Check.due("back(1)", lawn.back(1), 1999 - left);
        }
        Check.due("feed with room for 20", lawn.feed(BLANKS, BLANKS, BLANKS, BLANKS, BLANKS), 2000);
        Check.due("nothing came: all are blanks", lawn.read(), 0);
        // What was refused is not read, not even behind what came later.
        Check.due("count(8)", lawn.count(8), 0);
        Check.due("feed into the empty tape", lawn.feed(BLANKS, BLANKS, BLANKS, BLANKS, BLANKS), 20);
    }

    private static void bytesGo() {
        MownLawn lawn = new MownLawn();
        Check.due("back(0) of none", lawn.back(0), 0);
        Check.feed(lawn, "row abcdefgh; row ab");
        Check.due("back(0)", lawn.back(0), 20);
        Check.due("back(7)", lawn.back(7), 13);
        Check.due("back(0)", lawn.back(0), 13);
        Check.due("read()", lawn.read(), 0);
        Check.due("count(1)", lawn.count(1), 1);
        Check.due("count(0)", lawn.count(0), 8);
        Check.feed(lawn, "row abcdefgh; row ab");
        Check.due("back(20), all", lawn.back(20), 0);
        Check.due("read() of none", lawn.read(), 0);
        Check.due("count(1)", lawn.count(1), 0);
        // What comes next comes behind what is left.
        Check.feed(lawn, "seed 1; row abcde  ;");
        lawn.back(5);
        Check.feed(lawn, "fgh;");
        Check.due("count(8)", lawn.count(8), 19);
        Check.due("read()", lawn.read(), 0);
        Check.due("count(0)", lawn.count(0), 6);
    }

    private static void notSoMany() {
        MownLawn lawn = new MownLawn();
        for (int n : outside(0, 0)) {
            Check.due("empty: back(" + n + ")", lawn.back(n), -1);
        }
        Check.feed(lawn, "row abcdefgh; seed 1;");
        for (int n : outside(0, 21)) {
            Check.due("21 bytes: back(" + n + ")", lawn.back(n), -1);
            Check.due("nothing goes", lawn.count(8), 21);
        }
        Check.due("read()", lawn.read(), 0);
        Check.due("count(0)", lawn.count(0), 8);
    }

    private static void emptyThen() {
        MownLawn lawn = new MownLawn();
        Check.feed(lawn, DOT);
        Check.due("count(8)", lawn.count(8), DOT.length());
        Check.due("read()", lawn.read(), 0);
        Check.due("count(8) then", lawn.count(8), 0);
        Check.due("back(1) then", lawn.back(1), -1);
        String[] wrong = {"?", "row a;".repeat(7), "window a 0 0 0; sign a xxx xxx xxx;", "talk a b;", "height 100;",
            "sign a x x x;"};
        for (int fault = 1; fault <= 6; fault++) {
            Check.feed(lawn, wrong[fault - 1]);
            Check.due("read() of " + wrong[fault - 1], lawn.read(), fault);
            Check.due("count(8) then", lawn.count(8), 0);
        }
        Check.due("the one ahead", lawn.count(2), 1);
        Check.due("read() of an empty tape", lawn.read(), 0);
        Check.due("the one ahead is no more", lawn.count(2), 0);
    }

    private static void latestFault() {
        MownLawn lawn = new MownLawn();
        Check.due("ahead of any read()", lawn.place(), -1);
        Check.feed(lawn, "?");
        Check.due("not yet read", lawn.place(), -1);
        lawn.read();
        Check.due("at 0", lawn.place(), 0);
        Check.due("at 0 again", lawn.place(), 0);
        Check.feed(lawn, "row abc; row ab;");
        Check.due("still the latest read()'s", lawn.place(), 0);
        lawn.back(1);
        lawn.read();
        Check.due("at the text's end: its length", lawn.place(), 15);
        Check.feed(lawn, "row abc; row ab;");
        lawn.read();
        Check.due("at the ROW", lawn.place(), 13);
        lawn.weeks(1);
        lawn.hold(0);
        lawn.restore(0);
        Check.due("nothing else changes it", lawn.place(), 13);
        Check.feed(lawn, "row abc;");
        lawn.read();
        Check.due("without", lawn.place(), -1);
        Check.feed(lawn, " ".repeat(1999) + "?");
        lawn.read();
        Check.due("the last byte of 2,000", lawn.place(), 1999);
        lawn.read();
        Check.due("an empty tape has none", lawn.place(), -1);
    }

    // -- what is

    private static void looks() {
        Sentences.of(6, "Of a CELL: what 0 how high, 1 SUN (-2: PAVED), 2 food, 3 what GROWS tells now, as if it did not rain"
            + " (0: PAVED).", CallBoundariesTest::cell);
        Sentences.of(6, "-100 for others.", CallBoundariesTest::noCell);
        Sentences.of(7, "Of a sign: what 0 how many 'x' CELLS, 1 WINDOWS that know it (bits), 2 how often it was CUT.",
            CallBoundariesTest::sign);
        Sentences.of(7, "NONE for others.", CallBoundariesTest::noSign);
        Sentences.of(8, "3 signs that it knows (bits), 4 with whom it has a TALK (bits).", CallBoundariesTest::window);
        Sentences.of(8, "NONE for others.", CallBoundariesTest::noWindow);
        Sentences.of(9, "By how much a sign stands out at a PLACE; -2000: no such ones.", CallBoundariesTest::noContrast);
        Sentences.of(10, "in how many PLACES (i NONE), else the i-th (10 * Y + X, by Y, then by X);",
            CallBoundariesTest::reads);
        Sentences.of(10, "NONE: no such ones, not so many.", CallBoundariesTest::readsNone);
    }

    private static void cell() {
        MownLawn lawn = Check.lawn("row pa; row zp; height 99; rain 100 9; feeds = 9; grows = wet + food - 1;");
        int[][] due = {{0, -2, 0, 0}, {99, 0, 0, -1}, {99, 25, 0, -1}, {0, -2, 0, 0}};
        for (int i = 0; i < 4; i++) {
            for (int what = 0; what < 4; what++) {
                Check.due("cell(" + i % 2 + ", " + i / 2 + ", " + what + ")", lawn.cell(i % 2, i / 2, what), due[i][what]);
            }
        }
        lawn.nourish(1, 0);
        Check.due("fed", lawn.cell(1, 0, 2), 9);
        Check.due("grows by it", lawn.cell(1, 0, 3), 8);
        lawn.nourish(1, 0);
        Check.due("grows by it, held", lawn.cell(1, 0, 3), 9);
        Check.due("it rains, though", lawn.count(7), 9);
    }

    private static void noCell() {
        MownLawn lawn = Check.lawn("row abc; row def;");
        for (int wrong : outside(0, 2)) {
            Check.due("cell(" + wrong + ", 0, 0)", lawn.cell(wrong, 0, 0), -100);
            Check.due("cell(" + wrong + ", 1, 3)", lawn.cell(wrong, 1, 3), -100);
        }
        for (int wrong : outside(0, 1)) {
            Check.due("cell(0, " + wrong + ", 0)", lawn.cell(0, wrong, 0), -100);
        }
        for (int wrong : outside(0, 3)) {
            Check.due("cell(0, 0, " + wrong + ")", lawn.cell(0, 0, wrong), -100);
        }
        Check.due("cell(2, 1, 1)", lawn.cell(2, 1, 1), 5);
    }

    private static void sign() {
        MownLawn lawn = Check.lawn(THREE + "sign a xxx xxx xxx; sign b ooo ooo ooo; sign c oxo ooo ooo; window u 0 2 0;"
            + " window v 0 1 0; window w 0 2 0; window x 0 2 0; grows = 0;");
        Check.due("nine", lawn.sign(0, 0), 9);
        Check.due("none", lawn.sign(1, 0), 0);
        Check.due("one", lawn.sign(2, 0), 1);
        Check.due("not yet known", lawn.sign(2, 1), 0);
        lawn.weeks(1);
        Check.due("known by 0, 2 and 3", lawn.sign(2, 1), 13);
        Check.due("never known", lawn.sign(1, 1), 0);
        Check.due("not yet cut", lawn.sign(2, 2), 0);
        for (int i = 1; i <= 40; i++) {
            lawn.cut(2, 0, 0);
        }
        Check.due("cut 40 times", lawn.sign(2, 2), 40);
        Check.due("the other ones", lawn.sign(0, 2) + lawn.sign(1, 2), 0);
    }

    private static void noSign() {
        MownLawn lawn = Check.lawn(DOT + "sign two xxo ooo ooo;");
        for (int wrong : outside(0, 1)) {
            for (int what = 0; what < 3; what++) {
                Check.due("sign(" + wrong + ", " + what + ")", lawn.sign(wrong, what), -1);
            }
        }
        for (int wrong : outside(0, 2)) {
            Check.due("sign(1, " + wrong + ")", lawn.sign(1, wrong), -1);
        }
        Check.due("sign(1, 0)", lawn.sign(1, 0), 2);
        Check.due("no sign at all", Check.lawn(THREE).sign(0, 0), -1);
    }

    private static void window() {
        MownLawn lawn = Check.lawn(THREE + "sign a oxo ooo ooo; sign b ooo ooo ooo; sign c ooo ooo oxo; sign d oxx ooo ooo;"
            + "window u 0 2 0; window v 0 1 0; window w 0 2 20; window x 3 7 99; talk x u; talk v u; grows = 0;");
        int[] talks = {10, 1, 0, 1};
        for (int i = 0; i < 4; i++) {
            Check.due("knows nothing yet", lawn.window(i, 3), 0);
            Check.due("talks of " + i, lawn.window(i, 4), talks[i]);
        }
        lawn.weeks(1);
        int[] first = {13, 0, 0, 0};
        int[] second = {13, 13, 0, 13};
        for (int i = 0; i < 4; i++) {
            Check.due("behind a week " + i, lawn.window(i, 3), first[i]);
        }
        lawn.weeks(1);
        for (int i = 0; i < 4; i++) {
            Check.due("behind two weeks " + i, lawn.window(i, 3), second[i]);
        }
    }

    private static void noWindow() {
        MownLawn lawn = Check.lawn(DOT + "window a 1 5 9; window b 2 6 8;");
        for (int wrong : outside(0, 1)) {
            for (int what = 0; what < 5; what++) {
                Check.due("window(" + wrong + ", " + what + ")", lawn.window(wrong, what), -1);
            }
        }
        for (int wrong : outside(0, 4)) {
            Check.due("window(1, " + wrong + ")", lawn.window(1, wrong), -1);
        }
        Check.due("window(1, 1)", lawn.window(1, 1), 6);
        Check.due("no WINDOW at all", Check.lawn(DOT).window(0, 0), -1);
    }

    private static MownLawn wide() {
        return Check.lawn(WIDE + "sign dot ooo oxo ooo; sign two ooo oxx ooo; window a 0 7 9; window b 1 7 20;");
    }

    private static void noContrast() {
        MownLawn lawn = wide();
        for (int wrong : outside(0, 1)) {
            Check.due("contrast(" + wrong + ", 0, 0)", lawn.contrast(wrong, 0, 0), -2000);
        }
        for (int wrong : outside(0, 5)) {
            Check.due("contrast(0, " + wrong + ", 0)", lawn.contrast(0, wrong, 0), -2000);
        }
        for (int wrong : outside(0, 3)) {
            Check.due("contrast(0, 0, " + wrong + ")", lawn.contrast(0, 0, wrong), -2000);
        }
        Check.due("contrast(1, 5, 3)", lawn.contrast(1, 5, 3), 0);
    }

    private static void reads() {
        MownLawn all = Check.lawn(WIDE + "sign dot ooo oxo ooo; window a 0 7 0; window b 0 7 1;");
        Check.due("all PLACES", all.reads(0, 0, -1), 24);
        for (int i = 0; i < 24; i++) {
            Check.due("the " + i + "-th", all.reads(0, 0, i), 10 * (i / 6) + i % 6);
        }
        Check.due("not so many", all.reads(0, 0, 24), -1);
        Check.due("none", all.reads(1, 0, -1), 0);
        Check.due("none, the 0-th", all.reads(1, 0, 0), -1);
        all.cut(0, 5, 3);
        Check.due("the last PLACE", all.reads(1, 0, -1), 1);
        Check.due("the last PLACE, the 0-th", all.reads(1, 0, 0), 35);
        Check.due("the last PLACE, the 1-st", all.reads(1, 0, 1), -1);
        MownLawn small = Check.lawn("row cc; row cc; sign dot ooo oxo ooo; window a 0 7 0;");
        Check.due("no PLACE", small.reads(0, 0, -1), 0);
    }

    private static void readsNone() {
        MownLawn lawn = wide();
        lawn.cut(0, 2, 1);
        for (int wrong : outside(0, 1)) {
            Check.due("reads(" + wrong + ", 0, -1)", lawn.reads(wrong, 0, -1), -1);
            Check.due("reads(0, " + wrong + ", -1)", lawn.reads(0, wrong, -1), -1);
            Check.due("reads(" + wrong + ", 0, 0)", lawn.reads(wrong, 0, 0), -1);
        }
        for (int wrong : outside(-1, 0)) {
            Check.due("reads(0, 0, " + wrong + ")", lawn.reads(0, 0, wrong), -1);
        }
        Check.due("reads(0, 0, -1)", lawn.reads(0, 0, -1), 1);
        Check.due("reads(0, 0, 0)", lawn.reads(0, 0, 0), 12);
    }

    // -- what is done

    private static void done() {
        Sentences.of(11, "NONE, and nothing happens: no such ones.", CallBoundariesTest::cutRefused);
        Sentences.of(12, "GRAZED: how high it was; -2, and nothing happens: PAVED; NONE: no such CELL.",
            CallBoundariesTest::grazeRefused);
        Sentences.of(13, "FED: its food then; -2, and nothing happens: PAVED; NONE: no such CELL.",
            CallBoundariesTest::nourishRefused);
        Sentences.of(14, "MOWN to a height (0 .. 99): how many CELLS were taller; NONE, and nothing happens: no such height.",
            CallBoundariesTest::mowRefused);
        Sentences.of(15, "n WEEKS (0 .. 60; 0 is no thing done) go by: which it is;", CallBoundariesTest::weeksGoBy);
        Sentences.of(15, "NONE, and nothing happens: no such n.", CallBoundariesTest::weeksRefused);
        Sentences.of(16, "The last thing done (cut, graze, nourish, mow, weeks) is undone:", CallBoundariesTest::undone);
        Sentences.of(16, "true; false: there is none (the last 30 can be).", CallBoundariesTest::undo);
    }

    /** A lawn with all that can be there: weeks gone by, a sign cut and known, food, a slot, something told. */
    private static MownLawn used() {
        MownLawn lawn = Check.lawn("row cpc; row ccc; row ccc; sign dot ooo oxo ooo; sign l xoo xoo xxx; window a 0 2 0;"
            + " window b 0 2 5; talk a b; rain 50 2; seed 6;");
        lawn.cut(1, 0, 0);
        lawn.weeks(3);
        lawn.hold(0);
        lawn.nourish(2, 0);
        lawn.tell(0, 0, 6);
        return lawn;
    }

    private static void nothingHappened(MownLawn lawn) {
        MownLawn other = used();
        Check.same("nothing happens", Seen.of(lawn), Seen.of(other));
        Check.due("undo()", lawn.undo(), true);
        Check.due("what is undone is the last thing done: food", lawn.cell(2, 0, 2), 0);
        Check.due("undo()", lawn.undo(), true);
        Check.due("what is undone is the last thing done: weeks", lawn.count(4), 0);
    }

    private static void cutRefused() {
        MownLawn lawn = used();
        for (int wrong : outside(0, 1)) {
            Check.due("cut(" + wrong + ", 0, 0)", lawn.cut(wrong, 0, 0), -1);
        }
        for (int wrong : outside(0, 0)) {
            Check.due("cut(0, " + wrong + ", 0)", lawn.cut(0, wrong, 0), -1);
            Check.due("cut(0, 0, " + wrong + ")", lawn.cut(0, 0, wrong), -1);
        }
        nothingHappened(lawn);
    }

    private static void grazeRefused() {
        MownLawn lawn = used();
        Check.due("graze(1, 0)", lawn.graze(1, 0), -2);
        for (int wrong : outside(0, 2)) {
            Check.due("graze(" + wrong + ", 0)", lawn.graze(wrong, 0), -1);
            Check.due("graze(0, " + wrong + ")", lawn.graze(0, wrong), -1);
        }
        nothingHappened(lawn);
        MownLawn high = Check.lawn("row c; height 99;");
        Check.due("how high it was", high.graze(0, 0), 99);
        Check.due("how high it was, again", high.graze(0, 0), 0);
        Check.due("two things done", high.count(9), 2);
    }

    private static void nourishRefused() {
        MownLawn lawn = used();
        Check.due("nourish(1, 0)", lawn.nourish(1, 0), -2);
        for (int wrong : outside(0, 2)) {
            Check.due("nourish(" + wrong + ", 0)", lawn.nourish(wrong, 0), -1);
            Check.due("nourish(0, " + wrong + ")", lawn.nourish(0, wrong), -1);
        }
        nothingHappened(lawn);
        MownLawn none = Check.lawn("row c; feeds = 0;");
        Check.due("fed by nothing", none.nourish(0, 0), 0);
        Check.due("is a thing done", none.count(9), 1);
    }

    private static void mowRefused() {
        MownLawn lawn = used();
        for (int wrong : outside(0, 99)) {
            Check.due("mow(" + wrong + ")", lawn.mow(wrong), -1);
        }
        nothingHappened(lawn);
        MownLawn high = Check.lawn("row cpc; height 99;");
        Check.due("mow(99)", high.mow(99), 0);
        Check.due("mow(98)", high.mow(98), 2);
        Check.due("mow(0)", high.mow(0), 2);
        Check.due("mow(0) again", high.mow(0), 0);
        Check.due("four things done", high.count(9), 4);
    }

    private static void weeksGoBy() {
        MownLawn lawn = used();
        Check.due("weeks(0)", lawn.weeks(0), 3);
        nothingHappened(lawn);
        MownLawn long60 = Check.lawn("row b; height 0;");
        Check.due("weeks(0) at first", long60.weeks(0), 0);
        Check.due("nothing can be undone", long60.undo(), false);
        Check.due("weeks(1)", long60.weeks(1), 1);
        Check.due("weeks(60)", long60.weeks(60), 61);
        Check.due("grown by 61", long60.cell(0, 0, 0), 61);
        Check.due("two things done", long60.count(9), 2);
        Check.due("undo() of 60 at once", long60.undo(), true);
        Check.due("weeks(0)", long60.weeks(0), 1);
    }

    private static void weeksRefused() {
        MownLawn lawn = used();
        for (int wrong : outside(0, 60)) {
            Check.due("weeks(" + wrong + ")", lawn.weeks(wrong), -1);
        }
        nothingHappened(lawn);
    }

    private static void undone() {
        MownLawn lawn = used();
        String[] seen = new String[5];
        Runnable[] things = {() -> lawn.cut(0, 0, 0), () -> lawn.graze(2, 2), () -> lawn.nourish(1, 1), () -> lawn.mow(4),
            () -> lawn.weeks(3)};
        for (int i = 0; i < 5; i++) {
            seen[i] = brief(lawn);
            things[i].run();
            // None of these is a thing done.
            lawn.weeks(0);
            lawn.mow(100);
            lawn.hold(1);
            lawn.blades(0);
            Check.due("things", lawn.count(9), 4 + i);
        }
        for (int i = 4; i >= 0; i--) {
            Check.due("undo() " + i, lawn.undo(), true);
            Check.same("as it was ahead of thing " + i, brief(lawn), seen[i]);
        }
        lawn.tell(0, 0, 0);
        lawn.forget();
        Check.feed(lawn, "seed 1; ?");
        lawn.read();
        Check.due("things", lawn.count(9), 3);
        Check.due("undo(): nourish", lawn.undo(), true);
        Check.due("food", lawn.cell(2, 0, 2), 0);
    }

    /** Few calls, so that it can be asked for often. */
    private static String brief(MownLawn lawn) {
        StringBuilder brief = new StringBuilder();
        for (int i = 0; i < 9; i++) {
            brief.append(lawn.cell(i % 3, i / 3, 0)).append(' ').append(lawn.cell(i % 3, i / 3, 2)).append("; ");
        }
        return brief.append(lawn.count(4)).append(' ').append(lawn.count(5)).append(' ').append(lawn.count(6)).append(' ')
            .append(lawn.sign(0, 1)).append(' ').append(lawn.sign(0, 2)).append(' ').append(lawn.count(9)).toString();
    }

    private static void undo() {
        MownLawn lawn = Check.lawn(DOT);
        Check.due("there is none", lawn.undo(), false);
        for (int i = 0; i < 30; i++) {
            lawn.weeks(1);
        }
        Check.due("30 things", lawn.count(9), 30);
        lawn.weeks(1);
        Check.due("31 things, of which 30", lawn.count(9), 30);
        for (int i = 0; i < 30; i++) {
            Check.due("undo() " + i, lawn.undo(), true);
            Check.due("week", lawn.count(4), 30 - i);
        }
        Check.due("the 31st", lawn.undo(), false);
        Check.due("week", lawn.count(4), 1);
        // Round and round: each thing done is another one, undone in part, and done anew.
        int week = 1;
        for (int round = 0; round < 5; round++) {
            for (int i = 0; i < 17; i++) {
                lawn.weeks(2);
                week += 2;
            }
            for (int i = 0; i < 11; i++) {
                Check.due("round " + round + ": undo()", lawn.undo(), true);
                week -= 2;
                Check.due("round " + round + ": week", lawn.count(4), week);
            }
            Check.due("round " + round + ": things", lawn.count(9), Math.min(19, 6 * (round + 1)));
        }
        for (int i = 0; i < 19; i++) {
            Check.due("all that is left: undo()", lawn.undo(), true);
            week -= 2;
        }
        Check.due("none is left", lawn.undo(), false);
        Check.due("week", lawn.count(4), week);
    }

    // -- what would be

    private static void wouldBe() {
        Sentences.of(17, "BEST: what 0 by how much, 1 X, 2 Y; -2000: there is no PLACE, no such ones.",
            CallBoundariesTest::best);
        Sentences.of(18, "GONE; -2: not; NONE: no such ones.", CallBoundariesTest::gone);
        Sentences.of(19, "WHEN; -2: not; NONE: no such ones.", CallBoundariesTest::when);
        Sentences.of(20, "CUTS; -2: by none, it does not see it; NONE: no such ones.", CallBoundariesTest::cuts);
        Sentences.of(21, "CARE: 10 * Y + X; -2: none; NONE: no such ones.", CallBoundariesTest::care);
        Sentences.of(22, "LEVEL; -2: none.", CallBoundariesTest::level);
        Sentences.of(23, "QUIET; -2: not.", CallBoundariesTest::quiet);
        Sentences.of(24, "KNOWS (0: now); -2: not; NONE: no such ones.", CallBoundariesTest::knows);
        Sentences.of(25, "IN n WEEKS: how high a CELL is; NONE: no such ones.", CallBoundariesTest::then);
        Sentences.of(26, "3 how many CELLS of GRASS are as high as h or higher (0 .. 99; looked at for 3 alone);",
            CallBoundariesTest::allSoHigh);
        Sentences.of(26, "-2: there is no CELL (0, 1); NONE: no such ones.", CallBoundariesTest::all);
        Sentences.of(27, "YEAR; NONE: no such ones.", CallBoundariesTest::year);
    }

    private static void best() {
        MownLawn lawn = wide();
        for (int wrong : outside(0, 1)) {
            Check.due("best(" + wrong + ", 0)", lawn.best(wrong, 0), -2000);
        }
        for (int wrong : outside(0, 2)) {
            Check.due("best(0, " + wrong + ")", lawn.best(0, wrong), -2000);
        }
        Check.due("best(1, 0)", lawn.best(1, 0), 0);
        String[] small = {"row cccccccc; row cccccccc;", "row cc; row cc; row cc; row cc;", "row ppp;", ""};
        for (String rows : small) {
            MownLawn none = Check.lawn(rows + "sign dot ooo oxo ooo;");
            for (int what = 0; what < 3; what++) {
                Check.due("no PLACE: " + rows + ": best(0, " + what + ")", none.best(0, what), -2000);
            }
        }
    }

    private static void gone() {
        MownLawn lawn = wide();
        for (int wrong : outside(0, 1)) {
            Check.due("gone(" + wrong + ", 0, 0)", lawn.gone(wrong, 0, 0), -1);
        }
        for (int wrong : outside(0, 5)) {
            Check.due("gone(0, " + wrong + ", 0)", lawn.gone(0, wrong, 0), -1);
        }
        for (int wrong : outside(0, 3)) {
            Check.due("gone(0, 0, " + wrong + ")", lawn.gone(0, 0, wrong), -1);
        }
        Check.due("gone(1, 5, 3)", lawn.gone(1, 5, 3), 0);
        MownLawn not = Check.lawn(DOT + "window a 0 2 0; grows = 0;");
        Check.due("not", not.gone(0, 0, 0), -2);
    }

    private static void when() {
        MownLawn lawn = wide();
        for (int wrong : outside(0, 1)) {
            Check.due("when(" + wrong + ", 0, 0, 0, 60)", lawn.when(wrong, 0, 0, 0, 60), -1);
        }
        for (int wrong : outside(0, 5)) {
            Check.due("when(0, " + wrong + ", 0, 0, 60)", lawn.when(0, wrong, 0, 0, 60), -1);
        }
        for (int wrong : outside(0, 3)) {
            Check.due("when(0, 0, " + wrong + ", 0, 60)", lawn.when(0, 0, wrong, 0, 60), -1);
        }
        for (int wrong : outside(0, 59)) {
            Check.due("when(0, 0, 0, " + wrong + ", 60)", lawn.when(0, 0, 0, wrong, 60), -1);
        }
        for (int wrong : outside(1, 60)) {
            Check.due("when(0, 0, 0, 0, " + wrong + ")", lawn.when(0, 0, 0, 0, wrong), -1);
        }
        Check.due("when(0, 0, 0, 0, 60): gone at last", lawn.when(0, 0, 0, 0, 60), 0);
        Check.due("when(0, 0, 0, 0, 1): not", lawn.when(0, 0, 0, 0, 1), -2);
    }

    private static void cuts() {
        MownLawn lawn = wide();
        for (int wrong : outside(0, 1)) {
            Check.due("cuts(" + wrong + ", 0, 1, 0)", lawn.cuts(wrong, 0, 1, 0), -1);
            Check.due("cuts(0, " + wrong + ", 1, 0)", lawn.cuts(0, wrong, 1, 0), -1);
        }
        for (int wrong : outside(0, 5)) {
            Check.due("cuts(0, 0, " + wrong + ", 0)", lawn.cuts(0, 0, wrong, 0), -1);
        }
        for (int wrong : outside(0, 3)) {
            Check.due("cuts(0, 0, 1, " + wrong + ")", lawn.cuts(0, 0, 1, wrong), -1);
        }
        Check.due("it sees it", lawn.cuts(1, 1, 5, 3), 2);
        Check.due("it does not see it", lawn.cuts(1, 1, 0, 3), -2);
        lawn.mow(19);
        Check.due("by none", lawn.cuts(1, 1, 5, 3), -2);
    }

    private static void care() {
        MownLawn lawn = Check.lawn(WIDE + "sign s xxx xox xxx; window a 0 7 9; grows = if food < 1 then (0 - tall) / 9 else 0;");
        lawn.cut(0, 5, 3);
        for (int wrong : outside(0, 0)) {
            Check.due("care(" + wrong + ", 0, 0)", lawn.care(wrong, 0, 0), -1);
        }
        for (int wrong : outside(0, 5)) {
            Check.due("care(0, " + wrong + ", 0)", lawn.care(0, wrong, 0), -1);
        }
        for (int wrong : outside(0, 3)) {
            Check.due("care(0, 0, " + wrong + ")", lawn.care(0, 0, wrong), -1);
        }
        Check.due("the one that is left", lawn.care(0, 5, 3), 46);
        Check.due("none", lawn.care(0, 0, 0), -2);
    }

    private static void level() {
        MownLawn none = Check.lawn("row ppp; row ppp; row ppp; sign dot ooo oxo ooo; window a 0 2 0;");
        Check.due("none: PAVED, read by 0", none.level(), -2);
        MownLawn sharp = Check.lawn("row ppp; row ppp; row ppp; sign dot ooo oxo ooo; window a 0 2 1;");
        Check.due("PAVED, not read by 1", sharp.level(), 99);
    }

    private static void quiet() {
        MownLawn not = Check.lawn("row ppp; row ppp; row ppp; sign dot ooo oxo ooo; window a 0 2 0;");
        Check.due("not: PAVED, read by 0", not.quiet(), -2);
        MownLawn sharp = Check.lawn("row ppp; row ppp; row ppp; sign dot ooo oxo ooo; window a 0 2 1;");
        Check.due("PAVED, not read by 1", sharp.quiet(), 0);
    }

    private static void knows() {
        MownLawn lawn = wide();
        for (int wrong : outside(0, 1)) {
            Check.due("knows(" + wrong + ", 0)", lawn.knows(wrong, 0), -1);
            Check.due("knows(0, " + wrong + ")", lawn.knows(0, wrong), -1);
        }
        Check.due("not", lawn.knows(1, 1), -2);
        lawn.cut(1, 5, 3);
        Check.due("behind a week", lawn.knows(1, 1), 1);
        lawn.weeks(1);
        Check.due("now", lawn.knows(1, 1), 0);
    }

    private static void then() {
        MownLawn lawn = Check.lawn("row bbb; row bbp; height 0;");
        for (int wrong : outside(0, 2)) {
            Check.due("then(" + wrong + ", 0, 1)", lawn.then(wrong, 0, 1), -1);
        }
        for (int wrong : outside(0, 1)) {
            Check.due("then(0, " + wrong + ", 1)", lawn.then(0, wrong, 1), -1);
        }
        for (int wrong : outside(0, 60)) {
            Check.due("then(0, 0, " + wrong + ")", lawn.then(0, 0, wrong), -1);
        }
        Check.due("then(2, 0, 60)", lawn.then(2, 0, 60), 60);
        Check.due("then(2, 1, 60), PAVED", lawn.then(2, 1, 60), 0);
        Check.due("then(0, 1, 0)", lawn.then(0, 1, 0), 0);
    }

    private static void allSoHigh() {
        MownLawn lawn = Check.lawn("row bbb; row bbp; height 39;");
        Check.due("h 0", lawn.all(60, 3, 0), 5);
        Check.due("h 99", lawn.all(60, 3, 99), 5);
        Check.due("h 99, a week less", lawn.all(59, 3, 99), 0);
        Check.due("h 98, a week less", lawn.all(59, 3, 98), 5);
        for (int wrong : outside(0, 99)) {
            Check.due("all(0, 3, " + wrong + ")", lawn.all(0, 3, wrong), -1);
            Check.due("all(0, 0, " + wrong + ")", lawn.all(0, 0, wrong), 39);
            Check.due("all(0, 1, " + wrong + ")", lawn.all(0, 1, wrong), 0);
            Check.due("all(0, 2, " + wrong + ")", lawn.all(0, 2, wrong), 195);
        }
    }

    private static void all() {
        MownLawn none = new MownLawn();
        Check.due("no CELL: all(0, 0, 0)", none.all(0, 0, 0), -2);
        Check.due("no CELL: all(60, 1, 0)", none.all(60, 1, 0), -2);
        Check.due("no CELL: all(60, 2, 0)", none.all(60, 2, 0), 0);
        Check.due("no CELL: all(60, 3, 0)", none.all(60, 3, 0), 0);
        MownLawn paved = Check.lawn("row p;");
        Check.due("a CELL, PAVED: all(0, 0, 0)", paved.all(0, 0, 0), 0);
        Check.due("a CELL, PAVED: all(0, 1, 0)", paved.all(0, 1, 0), 0);
        Check.due("a CELL, PAVED: all(0, 3, 0)", paved.all(0, 3, 0), 0);
        for (MownLawn lawn : new MownLawn[] {none, paved}) {
            for (int wrong : outside(0, 60)) {
                for (int what = 0; what < 4; what++) {
                    Check.due("all(" + wrong + ", " + what + ", 0)", lawn.all(wrong, what, 0), -1);
                }
            }
            for (int wrong : outside(0, 3)) {
                Check.due("all(0, " + wrong + ", 0)", lawn.all(0, wrong, 0), -1);
            }
            Check.due("all(0, 3, 100)", lawn.all(0, 3, 100), -1);
        }
    }

    private static void year() {
        MownLawn lawn = wide();
        for (int wrong : outside(0, 1)) {
            Check.due("year(" + wrong + ", 0, 0, 1)", lawn.year(wrong, 0, 0, 1), -1);
            Check.due("year(0, " + wrong + ", 0, 1)", lawn.year(0, wrong, 0, 1), -1);
        }
        for (int wrong : outside(0, 60)) {
            Check.due("year(0, 0, " + wrong + ", 1)", lawn.year(0, 0, wrong, 1), -1);
        }
        for (int wrong : outside(1, 20)) {
            Check.due("year(0, 0, 0, " + wrong + ")", lawn.year(0, 0, 0, wrong), -1);
        }
        lawn.cut(1, 5, 3);
        Check.due("year(1, 1, 0, 1)", lawn.year(1, 1, 0, 1), 1);
        Check.due("year(1, 1, 0, 20)", lawn.year(1, 1, 0, 20), 20);
        Check.due("year(1, 1, 60, 20)", lawn.year(1, 1, 60, 20), 0);
    }

    // -- what was cut

    private static void clues() {
        Sentences.of(28, "It is TOLD: its number; NONE, and nothing happens: 20 are there, no such ones.",
            CallBoundariesTest::tell);
        Sentences.of(29, "All that was TOLD is forgotten: how many there were.", CallBoundariesTest::forget);
        Sentences.of(30, "BLADES, as KNOWN by k: how many; NONE: no such k.", CallBoundariesTest::blades);
        Sentences.of(31, "-2: this or that, no BLADES; NONE: no such ones.", CallBoundariesTest::sure);
        Sentences.of(32, "ASK, as KNOWN by k: 10 * Y + X; -2: no BLADES; NONE: no such k.", CallBoundariesTest::ask);
    }

    private static void tell() {
        MownLawn lawn = used();
        for (int wrong : outside(0, 2)) {
            Check.due("tell(" + wrong + ", 0, 0)", lawn.tell(wrong, 0, 0), -1);
            Check.due("tell(0, " + wrong + ", 0)", lawn.tell(0, wrong, 0), -1);
        }
        for (int wrong : outside(0, 99)) {
            Check.due("tell(0, 0, " + wrong + ")", lawn.tell(0, 0, wrong), -1);
        }
        nothingHappened(lawn);
        MownLawn full = Check.lawn("row cp; row cc;");
        Check.due("high 0", full.tell(0, 0, 0), 0);
        Check.due("high 99", full.tell(1, 1, 99), 1);
        Check.due("of a PAVED CELL", full.tell(1, 0, 0), 2);
        for (int i = 3; i < 20; i++) {
            Check.due("its number", full.tell(0, 0, 5), i);
        }
        for (int i = 0; i < 3; i++) {
            Check.due("20 are there", full.tell(0, 0, 5), -1);
            Check.due("nothing happens", full.count(10), 20);
        }
        Check.due("it is no thing done", full.undo(), false);
    }

    private static void forget() {
        MownLawn lawn = Check.lawn(DOT);
        Check.due("none", lawn.forget(), 0);
        lawn.tell(0, 0, 7);
        Check.due("one", lawn.forget(), 1);
        Check.due("none any more", lawn.forget(), 0);
        Check.due("count(10)", lawn.count(10), 0);
        Check.due("no such k", lawn.blades(1), -1);
        for (int i = 0; i < 25; i++) {
            lawn.tell(0, 0, 7);
        }
        Check.due("20", lawn.forget(), 20);
        Check.due("its number is 0 again", lawn.tell(0, 0, 20), 0);
        Check.due("what was forgotten is not KNOWN", lawn.blades(1), 1);
    }

    private static void blades() {
        MownLawn lawn = Check.lawn(DOT);
        lawn.weeks(2);
        for (int wrong : outside(0, 0)) {
            Check.due("none is TOLD: blades(" + wrong + ")", lawn.blades(wrong), -1);
        }
        Check.due("blades(0)", lawn.blades(0), 3);
        lawn.tell(1, 1, 2);
        lawn.tell(1, 1, 2);
        for (int wrong : outside(0, 2)) {
            Check.due("two are TOLD: blades(" + wrong + ")", lawn.blades(wrong), -1);
        }
        Check.due("blades(2)", lawn.blades(2), 1);
        Check.due("blades(0)", lawn.blades(0), 3);
        lawn.tell(0, 0, 99);
        Check.due("blades(3)", lawn.blades(3), 0);
    }

    private static void sure() {
        MownLawn lawn = Check.lawn(DOT);
        lawn.weeks(2);
        for (int wrong : outside(0, 0)) {
            Check.due("none is TOLD: sure(" + wrong + ", 0)", lawn.sure(wrong, 0), -1);
        }
        for (int wrong : outside(0, 3)) {
            Check.due("sure(0, " + wrong + ")", lawn.sure(0, wrong), -1);
        }
        Check.due("this or that", lawn.sure(0, 3), -2);
        Check.due("one and the same", lawn.sure(0, 0), 0);
        lawn.tell(0, 0, 99);
        for (int what = 0; what < 4; what++) {
            Check.due("no BLADES: sure(1, " + what + ")", lawn.sure(1, what), -2);
        }
        Check.due("no BLADES: sure(1, 4)", lawn.sure(1, 4), -1);
        Check.due("no BLADES: sure(1, -1)", lawn.sure(1, -1), -1);
        for (int wrong : outside(0, 1)) {
            Check.due("one is TOLD: sure(" + wrong + ", 0)", lawn.sure(wrong, 0), -1);
        }
    }

    private static void ask() {
        MownLawn lawn = Check.lawn(WIDE + "sign dot ooo ooo oox;");
        for (int wrong : outside(0, 0)) {
            Check.due("none is TOLD: ask(" + wrong + ")", lawn.ask(wrong), -1);
        }
        Check.due("ask(0)", lawn.ask(0), 22);
        for (int y = 2; y < 6; y++) {
            for (int x = 2; x < 7 && lawn.count(10) < 20; x++) {
                lawn.tell(x, y, 20);
            }
        }
        for (int wrong : outside(0, 20)) {
            Check.due("20 are TOLD: ask(" + wrong + ")", lawn.ask(wrong), -1);
        }
        Check.due("ask(20)", lawn.ask(20), 27);
        lawn.forget();
        lawn.tell(7, 5, 0);
        Check.due("one is left: ask(1)", lawn.ask(1), 0);
        lawn.tell(7, 5, 20);
        Check.due("no BLADES: ask(2)", lawn.ask(2), -2);
        Check.due("no BLADES: ask(3)", lawn.ask(3), -1);
    }

    // -- slots and counts

    private static void slots() {
        Sentences.of(33, "All that goes on (not what is TOLD, nor the tape) is held in a SLOT (0 .. 2): true; false: no such"
            + " one.", CallBoundariesTest::hold);
        Sentences.of(34, "It goes on from what a SLOT holds (that stays there; nothing can be undone then): true;",
            CallBoundariesTest::restore);
        Sentences.of(34, "false, and nothing happens: no such one, nothing is held.", CallBoundariesTest::restoreRefused);
        Sentences.of(35, "7 how much it rains in this week, 8 bytes on the tape, 9 things that can be undone, 10 TOLD ones,"
            + " 11 SLOTS that hold something,", CallBoundariesTest::counts);
        Sentences.of(35, "NONE for others.", CallBoundariesTest::noCount);
    }

    private static void hold() {
        MownLawn lawn = used();
        for (int wrong : outside(0, 2)) {
            Check.due("hold(" + wrong + ")", lawn.hold(wrong), false);
        }
        nothingHappened(lawn);
        MownLawn all = used();
        String before = Seen.of(all);
        for (int slot = 0; slot < 3; slot++) {
            Check.due("hold(" + slot + ")", all.hold(slot), true);
        }
        Check.due("three of three", all.count(11), 3);
        Check.due("it can still be undone", all.count(9), 3);
        all.weeks(7);
        all.cut(0, 0, 0);
        all.tell(2, 2, 9);
        Check.feed(all, "seed 1;");
        Check.due("restore(2)", all.restore(2), true);
        Check.due("what is TOLD stays", all.count(10), 2);
        Check.due("the tape stays", all.count(8), 7);
        all.back(7);
        all.forget();
        all.tell(0, 0, 6);
        // But for the slots (1 then, 3 now), and for what can be undone (3 then, nothing now).
        Check.same("all that went on", goesOn(Seen.of(all)), goesOn(before));
    }

    private static String goesOn(String seen) {
        String[] words = seen.split(" ");
        words[1 + 9] = "-";
        words[1 + 11] = "-";
        return String.join(" ", words);
    }

    private static void restore() {
        MownLawn lawn = Check.lawn(DOT + "window a 0 2 5; fines = 3; feeds = 5;");
        lawn.hold(1);
        lawn.cut(0, 0, 0);
        lawn.nourish(0, 0);
        lawn.weeks(2);
        lawn.hold(0);
        lawn.weeks(9);
        for (int again = 0; again < 3; again++) {
            Check.due("restore(0)", lawn.restore(0), true);
            Check.due("nothing can be undone: count(9)", lawn.count(9), 0);
            Check.due("nothing can be undone: undo()", lawn.undo(), false);
            Check.due("week", lawn.count(4), 2);
            Check.due("high", lawn.cell(1, 1, 0), 4);
            Check.due("food", lawn.cell(0, 0, 2), 3);
            Check.due("known", lawn.window(0, 3), 1);
            Check.due("cut", lawn.sign(0, 2), 1);
            Check.due("FINES", lawn.count(5), 3);
            Check.due("SLOTS", lawn.count(11), 2);
            // What is done from here on is not done to what the slot holds.
            lawn.cut(0, 0, 0);
            lawn.nourish(0, 0);
            lawn.weeks(5);
            Check.due("three things can be undone", lawn.count(9), 3);
            Check.due("undo()", lawn.undo(), true);
            Check.due("week, undone", lawn.count(4), 2);
        }
        Check.due("restore(1)", lawn.restore(1), true);
        Check.due("as the text began: week", lawn.count(4), 0);
        Check.due("as the text began: known", lawn.sign(0, 1), 0);
        Check.due("as the text began: cut", lawn.count(6), 0);
    }

    private static void restoreRefused() {
        MownLawn lawn = used();
        for (int wrong : outside(0, 2)) {
            Check.due("restore(" + wrong + ")", lawn.restore(wrong), false);
        }
        Check.due("nothing is held: restore(1)", lawn.restore(1), false);
        Check.due("nothing is held: restore(2)", lawn.restore(2), false);
        nothingHappened(lawn);
    }

    private static void counts() {
        MownLawn lawn = Check.lawn(DOT + "rain 100 9;");
        Check.due("rain", lawn.count(7), 9);
        Check.due("bytes", lawn.count(8), 0);
        for (int i = 0; i < 40; i++) {
            lawn.graze(0, 0);
            lawn.tell(0, 0, 0);
            Check.due("things", lawn.count(9), Math.min(30, i + 1));
            Check.due("TOLD", lawn.count(10), Math.min(20, i + 1));
        }
        for (int slot = 0; slot < 3; slot++) {
            Check.due("SLOTS", lawn.count(11), slot);
            lawn.hold(2 - slot);
            lawn.hold(2 - slot);
        }
        Check.due("SLOTS", lawn.count(11), 3);
        MownLawn most = Check.lawn(WIDE + "sign a xxx xxx xxx; sign b xxx xxx xxx; sign c xxx xxx xxx; sign d xxx xxx xxx;"
            + " window e 0 7 0; window f 0 7 0; window g 0 7 0; window h 0 7 0; talk e f; talk e g; talk e h; talk f g;"
            + " talk f h; talk g h;");
        int[] due = {8, 6, 4, 4, 0, 0, 0, 0, 0, 0, 0, 0, 48, 6};
        for (int what = 0; what < 14; what++) {
            Check.due("the most of all: count(" + what + ")", most.count(what), due[what]);
        }
    }

    private static void noCount() {
        MownLawn lawn = used();
        for (int wrong : outside(0, 13)) {
            Check.due("count(" + wrong + ")", lawn.count(wrong), -1);
            Check.due("no lawn: count(" + wrong + ")", new MownLawn().count(wrong), -1);
        }
    }
}
