/** Each promise by its number: ordinary inputs, edges, wrong inputs. What is due was worked out by hand. */
public final class PromisesTest {
    private static final int LOW = Integer.MIN_VALUE;
    private static final int TOP = Integer.MAX_VALUE;
    private static final String DOT = "row ccc; row ccc; row ccc; sign dot ooo oxo ooo; ";
    private static final String WIDE = "row cccccccc; row cccccccc; row cccccccc; row cccccccc; row cccccccc; row cccccccc; ";

    private PromisesTest() { }

    public static void main(String[] args) {
        promise1();
        promises2And3();
        promises4And5();
        promise6();
        laws();
        promise7();
        promise8();
        promise9();
        promise10();
        promise11();
        promise12();
        promise13();
        promise14();
        promise15();
        rain();
        learning();
        promise16();
        promise17();
        promise18();
        promise19();
        promise20();
        promise21();
        promise22();
        promise23();
        promise24();
        promise25();
        promise26();
        promise27();
        promises28And29();
        promises30To32();
        replayed();
        promises33And34();
        promise35();
        Check.end();
    }

    private static void due(String call, long got, long want) {
        Check.due(call, got, want);
    }

    private static void promise1() {
        MownLawn x = new MownLawn();
        due("NONE", MownLawn.NONE, -1);
        for (int what = 0; what < 14; what++) {
            due("1: count(" + what + ")", x.count(what), 0);
        }
        due("1: place()", x.place(), -1);
        due("1: level()", x.level(), 99);
        due("1: quiet()", x.quiet(), 0);
        due("1: all(60, 0, 0)", x.all(60, 0, 0), -2);
        due("1: all(61, 0, 0)", x.all(61, 0, 0), -1);
        due("1: cell(0, 0, 1)", x.cell(0, 0, 1), -100);
        due("1: blades(0)", x.blades(0), 0);
        due("1: blades(1)", x.blades(1), -1);
        due("1: sure(0, 4)", x.sure(0, 4), -1);
        due("1: ask(0)", x.ask(0), -2);
        Check.due("1: undo()", x.undo(), false);
        Check.due("1: hold(2)", x.hold(2), true);
        Check.due("1: restore(2)", x.restore(2), true);
        due("1: count(11)", x.count(11), 1);
        due("1: weeks(60)", x.weeks(60), 60);
    }

    private static void promises2And3() {
        MownLawn x = new MownLawn();
        due("3: back(0) of an empty tape", x.back(0), 0);
        due("3: back(1) of an empty tape", x.back(1), -1);
        int filler = Check.four("    ", 0);
        for (int i = 1; i <= 100; i++) {
            due("2: feed", x.feed(filler, filler, filler, filler, filler), 20 * i);
        }
        due("2: feed of too much", x.feed(1, 2, 3, 4, 5), -1);
        due("2: count(8)", x.count(8), 2000);
        due("3: back(1)", x.back(1), 1999);
        due("2: feed of one too much", x.feed(filler, filler, filler, filler, filler), -1);
        due("3: back(-1)", x.back(-1), -1);
        due("3: back(2000)", x.back(2000), -1);
        due("3: back(least)", x.back(LOW), -1);
        due("3: back(greatest)", x.back(TOP), -1);
        due("3: back(18)", x.back(18), 1981);
        due("2: feed of one byte too much", x.feed(filler, filler, filler, filler, filler), -1);
        due("3: back(1)", x.back(1), 1980);
        due("2: feed again", x.feed(filler, filler, filler, filler, filler), 2000);
        due("2: the blanks are a text", x.read(), 0);
        due("2: the tape is empty then", x.count(8), 0);
        // The highest byte of a first, bytes above 127 too.
        due("2: feed", x.feed(Check.four("seed", 0), Check.four(" 1; ", 0), 0xff202020, filler, filler), 20);
        due("2: read()", x.read(), 1);
        due("2: place()", x.place(), 8);
        due("2: feed", x.feed(Check.four("seed", 0), Check.four(" 1;r", 0), Check.four("ow a", 0), Check.four("b;  ", 0),
            filler), 20);
        due("3: back(20)", x.back(20), 0);
        due("3: nothing is left", x.read(), 0);
        Check.feed(x, "seed 1; row abcdefgh");
        due("3: back(6)", x.back(6), 14);
        due("3: what went is not read", x.read(), 1);
        due("3: what went is not read", x.place(), 14);
        Check.feed(x, "row abcdefgh; seed 1");
        x.back(8);
        Check.feed(x, "; height 1234");
        x.back(3);
        Check.feed(x, ";");
        due("3: what went is not read", x.read(), 0);
        due("3: one row", x.count(0), 8);
        due("3: height 1", x.cell(0, 0, 0), 1);
    }

    private static void promises4And5() {
        MownLawn x = new MownLawn();
        Check.feed(x, "row abz; row apc; height 7; height 8;");
        due("4: count(8)", x.count(8), 37);
        due("4: read()", x.read(), 0);
        due("5: place()", x.place(), -1);
        due("4: count(8)", x.count(8), 0);
        due("4: count(0)", x.count(0), 3);
        due("4: the last height", x.cell(0, 0, 0), 8);
        Check.feed(x, "row abz; row ap;");
        due("4: SHAPE", x.read(), 6);
        due("5: place()", x.place(), 13);
        due("4: the text ahead stays", x.cell(2, 0, 1), 25);
        due("4: empty", x.read(), 0);
        due("5: place()", x.place(), -1);
        due("4: no lawn", x.count(0), 0);
    }

    private static void promise6() {
        MownLawn x = Check.lawn("row pbz; row abc; height 30; feeds = 3; grows = sun + wet + food; rain 100 9;");
        due("6: PAVED, high", x.cell(0, 0, 0), 0);
        due("6: PAVED, sun", x.cell(0, 0, 1), -2);
        due("6: PAVED, food", x.cell(0, 0, 2), 0);
        due("6: PAVED, grows", x.cell(0, 0, 3), 0);
        due("6: high", x.cell(1, 0, 0), 30);
        due("6: sun a", x.cell(0, 1, 1), 0);
        due("6: sun z", x.cell(2, 0, 1), 25);
        due("6: grows, without rain", x.cell(1, 0, 3), 1);
        due("6: grows, held", x.cell(2, 0, 3), 9);
        x.nourish(1, 0);
        due("6: food", x.cell(1, 0, 2), 3);
        due("6: grows with food", x.cell(1, 0, 3), 4);
        due("6: what 4", x.cell(1, 0, 4), -100);
        due("6: what -1", x.cell(1, 0, -1), -100);
        due("6: x -1", x.cell(-1, 0, 0), -100);
        due("6: x 3", x.cell(3, 0, 0), -100);
        due("6: y -1", x.cell(0, -1, 0), -100);
        due("6: y 2", x.cell(0, 2, 0), -100);
        due("6: far", x.cell(TOP, LOW, 0), -100);
    }

    private static void worth(String law, int want) {
        MownLawn x = Check.lawn("row bbb; row bdb; row bpe; height 7; grows = " + law + ";");
        x.graze(1, 0);
        x.nourish(1, 1);
        due("II: " + law, x.cell(1, 1, 3), want);
    }

    private static void laws() {
        // The cell has food 2 and sun 3; the one above it was grazed, the one below is paved.
        worth("1 + 2 * 3", 7);
        worth("(1 + 2) * 3", 9);
        worth("9 - 3 - 2", 4);
        worth("8 / 2 / 2", 2);
        worth("8 / (2 / 2)", 8);
        worth("2 * 9 / 4", 4);
        worth("9 / 4 * 2", 4);
        worth("(0 - 7) / 2", -3);
        worth("10", 9);
        worth("0 - 10", -9);
        worth("tall", 7);
        worth("sun", 3);
        worth("week", 0);
        worth("wet", 0);
        worth("food", 2);
        worth("across", 1);
        worth("down", 1);
        worth("beside", 7);
        worth("size", 0);
        worth("food / sun", 0);
        worth("tall - (tall - (tall - (tall - (tall - (tall - 1)))))", 1);
        // 9 - 30 is -21; 8 / -21 is 0; 6 * 7 is 42; 4 * (5 - 42) is -148; 2 * -145 is -290.
        worth("(1 + 2 * (3 + 4 * (5 - 6 * (7 - 8 / (9 - 10 * (1 + 2)))))) / 100", -2);
        worth("if 1 < 0 then 1 else if 2 < 1 then 2 else if 3 < 2 then 3 else if 4 < 3 then 4 else"
            + " 1 + 1 * (1 + 1 * (1 + 1 * (1 + 1 * (1 + 1 * (1 + 1 * (1 + 1 * 1))))))", 8);
        worth("1 / 0", 0);
        worth("5 + 1 / 0", 0);
        worth("5 + 0 * (1 / 0)", 0);
        worth("7 / (tall - 7)", 0);
        worth("if 1 < 2 then 3 else 4", 3);
        worth("if 2 < 2 then 3 else 4", 4);
        worth("if 2 < 1 then 3 else 4", 4);
        worth("if 2 < 1 then 3 else if 1 < 2 then 5 else 6", 5);
        worth("if 2 < 1 then 3 else if 2 < 1 then 5 else 6", 6);
        worth("if 2 < 1 then 3 else if 2 < 1 then 4 else if 2 < 1 then 5 else if 0 - 1 < 0 then 6 else 7", 6);
        worth("if 1 < 2 then 3 else 1 / 0", 3);
        worth("if 2 < 1 then 1 / 0 else 4", 4);
        worth("if 1 < 2 then 3 else if 1 / 0 < 2 then 5 else 6", 3);
        worth("if 1 / 0 < 1 then 3 else 4", 0);
        worth("if 1 < 1 / 0 then 3 else 4", 0);
        worth("if 1 < 2 then 1 / 0 else 4", 0);
        worth("9999 * 9999 * 9999 / (9999 * 9999)", Math.max(-9, Math.min(9, 9999 * 9999 * 9999 / (9999 * 9999))));
        worth("if 5000 * 5000 * 100 < 0 then 1 else 2", 1);
        MownLawn corner = Check.lawn("row bb; row bb; height 5; grows = beside;");
        corner.graze(1, 0);
        corner.graze(0, 1);
        due("II: off the lawn is 0", corner.cell(0, 0, 3), 0);
        due("II: beside", corner.cell(1, 0, 3), 5);
        MownLawn last = Check.lawn("row b; grows = 1; grows = 2;");
        due("II: the last one", last.cell(0, 0, 3), 2);
        MownLawn feeds = Check.lawn("row bbb; row bbb; height 1; feeds = tall + sun + food + across + down + week"
            + " + 100 * wet + 100 * beside + 100 * size; rain 100 9; grows = 0;");
        due("II: feeds", feeds.nourish(2, 1), 5);
        due("II: feeds again, held", feeds.nourish(2, 1), 14);
        feeds.weeks(3);
        due("II: feeds in week 3", feeds.nourish(0, 0), 5);
        MownLawn fines = Check.lawn(WIDE + "sign s xxo ooo oox; rain 100 9; fines = size + 10 * across + 20 * down + week"
            + " + 1000 * (tall + sun + wet + food + beside);");
        due("II: fines", fines.cut(0, 0, 0), 3);
        due("II: fines by place", fines.cut(0, 1, 2), 53);
        fines.weeks(4);
        due("II: fines by week", fines.cut(0, 1, 2), 57);
        due("II: fines held", fines.cut(0, 5, 3), 99);
        MownLawn none = Check.lawn(DOT + "fines = 0 - 5; feeds = 0 - 5; grows = 0 - 30;");
        due("II: fines not below 0", none.cut(0, 0, 0), 0);
        due("II: feeds not below 0", none.nourish(0, 0), 0);
        none.weeks(1);
        due("II: grows not below -9", none.cell(0, 0, 0), 11);
        none.weeks(5);
        due("II: not below 0 high", none.cell(0, 0, 0), 0);
    }

    private static void promise7() {
        MownLawn x = Check.lawn(DOT + "sign all xxx xxx xxx; sign no ooo ooo ooo; window a 0 2 5; window b 0 2 99;"
            + " talk a b;");
        due("7: x of dot", x.sign(0, 0), 1);
        due("7: x of all", x.sign(1, 0), 9);
        due("7: x of no", x.sign(2, 0), 0);
        due("7: nobody knows", x.sign(0, 1), 0);
        due("7: never cut", x.sign(0, 2), 0);
        x.cut(0, 0, 0);
        x.cut(1, 0, 0);
        x.undo();
        x.cut(0, 0, 0);
        due("7: cut twice", x.sign(0, 2), 2);
        due("7: cut undone", x.sign(1, 2), 0);
        due("7: not known before the week is over", x.sign(0, 1), 0);
        x.weeks(1);
        due("7: a knows", x.sign(0, 1), 1);
        x.weeks(1);
        due("7: both know", x.sign(0, 1), 3);
        due("7: sign 3", x.sign(3, 0), -1);
        due("7: sign -1", x.sign(-1, 0), -1);
        due("7: what 3", x.sign(0, 3), -1);
        due("7: what -1", x.sign(0, -1), -1);
    }

    private static void promise8() {
        MownLawn x = Check.lawn(DOT + "sign bar xxx ooo ooo; window a 1 6 5; window b 0 7 0; window c 3 3 99;"
            + " window d 0 0 0; talk c a; talk b c;");
        due("8: from", x.window(0, 0), 1);
        due("8: to", x.window(0, 1), 6);
        due("8: sharp", x.window(2, 2), 99);
        due("8: knows", x.window(1, 3), 0);
        due("8: talk a", x.window(0, 4), 4);
        due("8: talk b", x.window(1, 4), 4);
        due("8: talk c", x.window(2, 4), 3);
        due("8: talk d", x.window(3, 4), 0);
        x.weeks(1);
        due("8: b reads both, sharp 0", x.window(1, 3), 3);
        due("8: c knows nothing", x.window(2, 3), 0);
        x.weeks(1);
        due("8: c was told", x.window(2, 3), 3);
        due("8: a not yet", x.window(0, 3), 0);
        x.weeks(1);
        due("8: a was told", x.window(0, 3), 3);
        due("8: window 4", x.window(4, 0), -1);
        due("8: window -1", x.window(-1, 0), -1);
        due("8: what 5", x.window(0, 5), -1);
        due("8: what -1", x.window(0, -1), -1);
    }

    private static void promise9() {
        MownLawn x = Check.lawn("row cccc; row cccc; row cccc; row cccp; sign dot ooo oxo ooo; sign all xxx xxx xxx;"
            + " sign no ooo ooo ooo; height 9;");
        due("9: all alike", x.contrast(0, 0, 0), 0);
        due("9: paved and left", x.contrast(0, 1, 1), -9);
        x.graze(1, 1);
        due("9: grazed", x.contrast(0, 0, 0), 9);
        due("9: its neighbour", x.contrast(0, 1, 0), -9);
        due("9: without o", x.contrast(1, 0, 0), -1000);
        due("9: without x", x.contrast(2, 0, 0), -1000);
        due("9: no place", x.contrast(0, 2, 0), -2000);
        due("9: no place", x.contrast(0, 0, 2), -2000);
        due("9: x below 0", x.contrast(0, -1, 0), -2000);
        due("9: y below 0", x.contrast(0, 0, -1), -2000);
        due("9: far", x.contrast(0, TOP, 0), -2000);
        due("9: far", x.contrast(0, 0, TOP), -2000);
        due("9: no sign", x.contrast(3, 0, 0), -2000);
        due("9: no sign", x.contrast(-1, 0, 0), -2000);
        MownLawn small = Check.lawn("row cc; row cc; row cc; sign dot ooo oxo ooo;");
        due("9: too narrow", small.contrast(0, 0, 0), -2000);
        MownLawn low = Check.lawn("row ccc; row ccc; sign dot ooo oxo ooo;");
        due("9: too low", low.contrast(0, 0, 0), -2000);
    }

    private static void promise10() {
        MownLawn x = Check.lawn(WIDE + "sign dot ooo oxo ooo; sign no ooo ooo ooo; window a 0 7 20; window b 1 4 20;"
            + " window c 1 4 21; window d 0 7 0;");
        x.cut(0, 0, 0);
        x.cut(0, 2, 3);
        x.cut(0, 5, 3);
        due("10: how many", x.reads(0, 0, -1), 3);
        due("10: first", x.reads(0, 0, 0), 0);
        due("10: second", x.reads(0, 0, 1), 32);
        due("10: third", x.reads(0, 0, 2), 35);
        due("10: fourth", x.reads(0, 0, 3), -1);
        due("10: from 1 to 4", x.reads(1, 0, -1), 1);
        due("10: from 1 to 4", x.reads(1, 0, 0), 32);
        due("10: too sharp", x.reads(2, 0, -1), 0);
        due("10: without x nowhere", x.reads(3, 1, -1), 0);
        due("10: i -2", x.reads(0, 0, -2), -1);
        due("10: i far", x.reads(0, 0, TOP), -1);
        due("10: no window", x.reads(4, 0, -1), -1);
        due("10: no sign", x.reads(0, 2, -1), -1);
        due("10: below 0", x.reads(-1, 0, -1), -1);
        due("10: below 0", x.reads(0, -1, -1), -1);
        MownLawn edge = Check.lawn(WIDE + "sign dot ooo oxo ooo; window a 2 4 0; window b 2 3 0;");
        due("10: X and X + 2", edge.reads(0, 0, -1), 4);
        due("10: X and X + 2", edge.reads(0, 0, 3), 32);
        due("10: X + 2 is not seen", edge.reads(1, 0, -1), 0);
    }

    private static void promise11() {
        MownLawn x = Check.lawn("row cpc; row ccc; row ccc; sign t xxx oxo oxo; sign no ooo ooo ooo;");
        due("11: no place", x.cut(0, 1, 0), -1);
        due("11: no sign", x.cut(2, 0, 0), -1);
        due("11: below 0", x.cut(-1, 0, 0), -1);
        due("11: nothing happens", x.count(9), 0);
        due("11: the fine is the size", x.cut(0, 0, 0), 5);
        int[] due = {0, 0, 0, 20, 0, 20, 20, 0, 20};
        for (int i = 0; i < 9; i++) {
            due("11: cell " + i, x.cell(i % 3, i / 3, 0), due[i]);
        }
        due("11: without x", x.cut(1, 0, 0), 0);
        due("11: fines", x.count(5), 5);
        due("11: cuts", x.count(6), 2);
        due("11: to be undone", x.count(9), 2);
    }

    private static void promise12() {
        MownLawn x = Check.lawn("row pc; height 33;");
        due("12: PAVED", x.graze(0, 0), -2);
        due("12: no cell", x.graze(2, 0), -1);
        due("12: no cell", x.graze(0, 1), -1);
        due("12: no cell", x.graze(-1, 0), -1);
        due("12: nothing happens", x.count(9), 0);
        due("12: grass", x.graze(1, 0), 33);
        due("12: 0 high", x.cell(1, 0, 0), 0);
        due("12: grass again", x.graze(1, 0), 0);
        due("12: two things", x.count(9), 2);
    }

    private static void promise13() {
        MownLawn x = Check.lawn("row pc; feeds = 9;");
        due("13: PAVED", x.nourish(0, 0), -2);
        due("13: no cell", x.nourish(2, 0), -1);
        due("13: no cell", x.nourish(1, -1), -1);
        due("13: nothing happens", x.count(9), 0);
        for (int i = 1; i <= 11; i++) {
            due("13: fed", x.nourish(1, 0), Math.min(99, 9 * i));
        }
        due("13: 99 at most", x.nourish(1, 0), 99);
        x.weeks(4);
        due("13: food is 1 less a week", x.cell(1, 0, 2), 95);
        MownLawn two = Check.lawn("row c;");
        due("13: 2, if not told", two.nourish(0, 0), 2);
        two.weeks(3);
        due("13: 0 at least", two.cell(0, 0, 2), 0);
    }

    private static void promise14() {
        MownLawn x = Check.lawn("row pcc; row ccc; height 10;");
        x.graze(1, 0);
        due("14: none is taller", x.mow(10), 0);
        due("14: mown", x.mow(4), 4);
        due("14: taller ones", x.cell(2, 0, 0), 4);
        due("14: lower ones", x.cell(1, 0, 0), 0);
        due("14: to 99", x.mow(99), 0);
        due("14: to 0", x.mow(0), 4);
        due("14: -1", x.mow(-1), -1);
        due("14: 100", x.mow(100), -1);
        due("14: things done", x.count(9), 5);
    }

    private static void promise15() {
        MownLawn x = Check.lawn("row bc; height 95; grows = sun + across;");
        due("15: 0 is which it is", x.weeks(0), 0);
        due("15: 0 is no thing done", x.count(9), 0);
        due("15: -1", x.weeks(-1), -1);
        due("15: 61", x.weeks(61), -1);
        due("15: nothing happens", x.count(4), 0);
        due("15: 2", x.weeks(2), 2);
        due("15: grown", x.cell(0, 0, 0), 97);
        due("15: 99 at most", x.cell(1, 0, 0), 99);
        due("15: one thing", x.count(9), 1);
        due("15: 60", x.weeks(60), 62);
        due("15: 0", x.weeks(0), 62);
        // All by how it was as the week began: beside of each is the other's height then.
        MownLawn pair = Check.lawn("row ab; height 0; grows = if week < 1 then sun * 4 else beside;");
        pair.weeks(1);
        due("15: pair", pair.cell(0, 0, 0) * 100 + pair.cell(1, 0, 0), 4);
        pair.weeks(1);
        due("15: pair", pair.cell(0, 0, 0) * 100 + pair.cell(1, 0, 0), 404);
        pair.weeks(1);
        due("15: pair", pair.cell(0, 0, 0) * 100 + pair.cell(1, 0, 0), 808);
    }

    private static int lot(int n, int seed, int which) {
        int h = seed;
        h = (h ^ 97) * 1103515245 + 12345;
        h ^= h >>> 15;
        h = (h ^ which) * 1103515245 + 12345;
        h ^= h >>> 15;
        return (h >>> 1) % n;
    }

    private static void rain() {
        MownLawn x = Check.lawn("row a; height 0; grows = wet; rain 40 1; seed 1234;");
        int high = 0;
        for (int week = 0; week < 50; week++) {
            int wet = lot(100, 1234, 4 * week) < 40 ? 1 : 0;
            due("rain in week " + week, x.count(7), wet);
            high += wet;
            x.weeks(1);
            due("high behind week " + week, x.cell(0, 0, 0), high);
        }
        MownLawn never = Check.lawn("row a; rain 0 9;");
        MownLawn always = Check.lawn("row a; rain 100 9;");
        for (int week = 0; week < 20; week++) {
            due("never", never.count(7), 0);
            due("always", always.count(7), 9);
            never.weeks(1);
            always.weeks(1);
        }
    }

    private static void learning() {
        // Cut and grown out within one week: never read at a week's end.
        MownLawn x = Check.lawn(DOT + "window a 0 2 10; window b 0 2 99; window c 0 1 0; window d 0 0 0; talk a b; talk b c;"
            + " grows = if tall < 20 then 9 else 0; height 18;");
        x.cut(0, 0, 0);
        due("read now", x.reads(0, 0, -1), 1);
        due("but not known", x.window(0, 3), 0);
        x.weeks(1);
        due("27 less 9", x.contrast(0, 0, 0), 18);
        due("a knows", x.window(0, 3), 1);
        x.weeks(3);
        due("grown out", x.contrast(0, 0, 0), 0);
        due("what is known stays", x.window(0, 3), 1);
        due("b knows", x.window(1, 3), 1);
        due("c knows", x.window(2, 3), 1);
        due("d does not", x.window(3, 3), 0);
    }

    private static void promise16() {
        MownLawn x = Check.lawn(DOT + "window a 0 2 5; fines = 7;");
        Check.due("16: nothing yet", x.undo(), false);
        x.cut(0, 0, 0);
        x.nourish(0, 0);
        x.weeks(3);
        x.mow(1);
        x.graze(0, 0);
        due("16: count(9)", x.count(9), 5);
        Check.due("16: graze", x.undo(), true);
        due("16: graze", x.cell(0, 0, 0), 1);
        Check.due("16: mow", x.undo(), true);
        due("16: mow", x.cell(0, 0, 0), 26);
        due("16: known", x.window(0, 3), 1);
        Check.due("16: weeks", x.undo(), true);
        due("16: weeks, high", x.cell(0, 0, 0), 20);
        due("16: weeks, food", x.cell(0, 0, 2), 2);
        due("16: weeks, which", x.count(4), 0);
        due("16: weeks, known", x.window(0, 3), 0);
        Check.due("16: nourish", x.undo(), true);
        due("16: nourish", x.cell(0, 0, 2), 0);
        due("16: fines", x.count(5), 7);
        Check.due("16: cut", x.undo(), true);
        due("16: cut, high", x.cell(1, 1, 0), 20);
        due("16: cut, fines", x.count(5), 0);
        due("16: cut, how often", x.sign(0, 2), 0);
        Check.due("16: none", x.undo(), false);
        for (int i = 0; i < 35; i++) {
            x.weeks(1);
            due("16: at most 30", x.count(9), Math.min(30, i + 1));
        }
        for (int i = 0; i < 30; i++) {
            Check.due("16: the last 30", x.undo(), true);
            due("16: week", x.count(4), 34 - i);
        }
        Check.due("16: the 31st", x.undo(), false);
        due("16: week", x.count(4), 5);
    }

    private static void promise17() {
        MownLawn x = Check.lawn("row ccccc; row ccccc; row ccccc; row ccccc; sign dot ooo oxo ooo; sign no ooo ooo ooo;");
        due("17: alike, by how much", x.best(0, 0), 0);
        due("17: alike, X", x.best(0, 1), 0);
        due("17: alike, Y", x.best(0, 2), 0);
        x.cut(0, 2, 1);
        due("17: by how much", x.best(0, 0), 20);
        due("17: X", x.best(0, 1), 2);
        due("17: Y", x.best(0, 2), 1);
        due("17: without x", x.best(1, 0), -1000);
        due("17: without x", x.best(1, 1), 0);
        due("17: what 3", x.best(0, 3), -2000);
        due("17: what -1", x.best(0, -1), -2000);
        due("17: no sign", x.best(2, 0), -2000);
        due("17: no sign", x.best(-1, 0), -2000);
        MownLawn tie = Check.lawn("row ccccccc; row ccccccc; row ccccccc; row ccccccc; sign dot ooo oxo ooo;");
        tie.graze(5, 1);
        tie.graze(1, 2);
        due("17: by Y first", tie.best(0, 1) + 10 * tie.best(0, 2), 4);
        MownLawn small = Check.lawn("row cc; row cc; row cc; sign dot ooo oxo ooo;");
        due("17: no place", small.best(0, 0), -2000);
        due("17: no place", small.best(0, 1), -2000);
    }

    private static void promise18() {
        // 20 and 0 high; the lower one grows by 3 while below 20: 18, 15 .. stands out by 20 - 3 w.
        MownLawn x = Check.lawn(DOT + "window a 0 2 9; window b 0 1 0; grows = if tall < 20 then 3 else 0;");
        due("18: not read now", x.gone(0, 0, 0), 0);
        x.cut(0, 0, 0);
        due("18: gone", x.gone(0, 0, 0), 4);
        x.weeks(3);
        due("18: in week 3", x.gone(0, 0, 0), 1);
        due("18: nothing happens", x.count(4), 3);
        due("18: no place", x.gone(0, 1, 0), -1);
        due("18: no sign", x.gone(1, 0, 0), -1);
        // It grows by 1 in week 98 alone: gone behind 99 weeks; or in week 99: not within 99.
        MownLawn late = Check.lawn(DOT + "window a 0 2 1; height 1; grows = if tall < 1 then (week + 1) / 99 else 0;");
        late.cut(0, 0, 0);
        due("18: behind 99", late.gone(0, 0, 0), 99);
        MownLawn later = Check.lawn(DOT + "window a 0 2 1; height 1; grows = if tall < 1 then week / 99 else 0;");
        later.cut(0, 0, 0);
        due("18: not within 99", later.gone(0, 0, 0), -2);
    }

    private static void promise19() {
        // Cut at w, it stands out by 20 - 3 * (d - w) in d; 9 or more: till 3 weeks behind; gone 4 weeks behind.
        MownLawn x = Check.lawn(DOT + "window a 0 2 9; grows = if tall < 20 then 3 else 0;");
        due("19: at once", x.when(0, 0, 0, 3, 7), 0);
        due("19: wait 2", x.when(0, 0, 0, 5, 9), 2);
        due("19: gone too late", x.when(0, 0, 0, 5, 8), 2);
        due("19: next week", x.when(0, 0, 0, 5, 6), 2);
        due("19: in no way", x.when(0, 0, 0, 0, 3), -2);
        due("19: cut in d itself", x.when(0, 0, 0, 0, 4), 0);
        due("19: the longest", x.when(0, 0, 0, 59, 60), 56);
        due("19: d is e", x.when(0, 0, 0, 5, 5), -1);
        due("19: e before d", x.when(0, 0, 0, 6, 5), -1);
        due("19: d below 0", x.when(0, 0, 0, -1, 5), -1);
        due("19: e 61", x.when(0, 0, 0, 5, 61), -1);
        due("19: no place", x.when(0, 0, 1, 5, 9), -1);
        due("19: no sign", x.when(1, 0, 0, 5, 9), -1);
        due("19: nothing happens", x.contrast(0, 0, 0), 0);
    }

    private static void promise20() {
        MownLawn x = Check.lawn("row cccc; row cccc; row ccpc; sign l xoo xoo xxx; sign no ooo ooo ooo; sign all xxx xxx xxx;"
            + " window a 0 2 15; window b 0 7 21; window c 1 3 0; window d 0 3 20; height 20;");
        due("20: all x but the paved one", x.cuts(0, 0, 0, 0), 4);
        due("20: too sharp", x.cuts(1, 0, 0, 0), -2);
        due("20: just so", x.cuts(3, 0, 0, 0), 4);
        due("20: not seen", x.cuts(2, 0, 0, 0), -2);
        x.graze(0, 0);
        due("20: one is grazed", x.cuts(0, 0, 0, 0), 3);
        due("20: seen, sharp 0", x.cuts(2, 0, 1, 0), 0);
        x.cut(0, 0, 0);
        due("20: read already", x.cuts(0, 0, 0, 0), 0);
        due("20: without x", x.cuts(3, 1, 0, 0), -2);
        due("20: without o", x.cuts(3, 2, 0, 0), -2);
        due("20: no place", x.cuts(0, 0, 2, 0), -1);
        due("20: no window", x.cuts(4, 0, 0, 0), -1);
        due("20: no sign", x.cuts(0, 3, 0, 0), -1);
        due("20: below 0", x.cuts(-1, 0, 0, 0), -1);
        // Heights that stay below what is allowed need no cut.
        MownLawn y = Check.lawn(DOT + "window a 0 2 5; sign two xxo ooo ooo; height 0;"
            + " grows = if down < 1 then 3 - across * 2 / 2 else 9;");
        y.weeks(1);
        // Row 0: 3, 2, 1; the rest 9. Left of 'two': least is 1, sharp 5: never.
        due("20: never", y.cuts(0, 1, 0, 0), -2);
    }

    private static void promise21() {
        // Food makes grass taller: the cut cell's neighbours grow, if fed, but the least of the left ones counts.
        MownLawn x = Check.lawn("row ccc; row ccc; row ccc; sign s oxx xxx xxx; window a 0 2 9; height 20;"
            + " grows = if food < 1 then (20 - tall) / 4 else 9; feeds = 5;");
        x.cut(0, 0, 0);
        due("21: (20 - tall) / 4 from 0: 5, 8, 11, 13 high", x.gone(0, 0, 0), 4);
        due("21: the one that is left", x.care(0, 0, 0), 0);
        due("21: nothing happens", x.cell(0, 0, 2), 0);
        due("21: nothing is done", x.count(9), 1);
        due("21: no place", x.care(0, 1, 0), -1);
        due("21: no sign", x.care(1, 0, 0), -1);
        MownLawn none = Check.lawn(DOT + "window a 0 2 9; grows = if tall < 20 then 3 else 0;");
        due("21: not read", none.care(0, 0, 0), -2);
        none.cut(0, 0, 0);
        due("21: food is nothing", none.care(0, 0, 0), -2);
        MownLawn never = Check.lawn("row pccc; row cccc; row cccc; sign dot ooo oxo ooo; window a 1 3 1; height 9;"
            + " grows = if food < 1 then 0 else 0 - 9;");
        never.cut(0, 1, 0);
        due("21: never gone", never.gone(0, 1, 0), -2);
        due("21: nothing is later than never", never.care(0, 1, 0), -2);
        // The one that is left sinks by 1 a week, but for two weeks in which it has food.
        MownLawn far = Check.lawn("row cccc; row cccc; row cccc; sign dot xxx xox xxx; window a 1 3 5; height 9;"
            + " grows = if food < 1 then 0 - 1 else 0;");
        far.cut(0, 1, 0);
        due("21: sinks", far.gone(0, 1, 0), 5);
        due("21: the middle", far.care(0, 1, 0), 12);
        MownLawn late = Check.lawn("row ccc; row ccc; row ccc; sign dot xxx xox xxx; window a 0 2 1; height 1;"
            + " grows = if 0 < food then 9 else if tall < 1 then (week + 1) / 99 else 0;");
        late.cut(0, 0, 0);
        due("21: gone as late as can be", late.gone(0, 0, 0), 99);
        due("21: never is later still", late.care(0, 0, 0), 11);
        // The one that is left has less sun, and sinks.
        MownLawn two = Check.lawn("row ccccc; row ccbcc; row ccccc; sign dot xxx xox xxx; window a 1 3 1; height 30;"
            + " grows = if 0 < food then 9 else sun - 2;");
        two.cut(0, 1, 0);
        due("21: sinks by 1 a week", two.gone(0, 1, 0), 30);
        due("21: later by food", two.care(0, 1, 0), 12);
    }

    private static void promise22() {
        MownLawn x = Check.lawn(DOT + "window a 0 2 10; window b 0 2 7;");
        due("22: nothing is read", x.level(), 99);
        x.cut(0, 0, 0);
        due("22: below the sharpest eye", x.level(), 6);
        due("22: nothing happens", x.cell(0, 0, 0), 20);
        MownLawn zero = Check.lawn(DOT + "window a 0 2 0;");
        due("22: none", zero.level(), -2);
        MownLawn one = Check.lawn(DOT + "window a 0 2 1;");
        one.cut(0, 0, 0);
        due("22: 0", one.level(), 0);
        MownLawn blind = Check.lawn(DOT + "window a 0 1 0;");
        due("22: seen by none", blind.level(), 99);
    }

    private static void promise23() {
        MownLawn x = Check.lawn(DOT + "sign bar xxx ooo ooo; window a 0 2 9; grows = if tall < 20 then 3 else 0;");
        due("23: now", x.quiet(), 0);
        x.cut(1, 0, 0);
        due("23: gone", x.quiet(), 4);
        String late = DOT + "window a 0 2 1; height 1; grows = if tall < 1 then (week + 1) / ";
        MownLawn behind = Check.lawn(late + "200 else 0;");
        behind.cut(0, 0, 0);
        due("23: behind 200", behind.quiet(), 200);
        due("23: nothing happens", behind.count(4), 0);
        MownLawn not = Check.lawn(late + "201 else 0;");
        not.cut(0, 0, 0);
        due("23: not within 200", not.quiet(), -2);
    }

    private static void promise24() {
        MownLawn x = Check.lawn(DOT + "window a 0 2 9; window b 0 1 0; window c 0 1 0; window d 0 1 0; talk a b; talk b c;");
        due("24: not", x.knows(0, 0), -2);
        x.cut(0, 0, 0);
        due("24: a", x.knows(0, 0), 1);
        due("24: b", x.knows(1, 0), 2);
        due("24: c", x.knows(2, 0), 3);
        due("24: d", x.knows(3, 0), -2);
        x.weeks(2);
        due("24: now", x.knows(1, 0), 0);
        due("24: next week", x.knows(2, 0), 1);
        due("24: nothing happens", x.window(2, 3), 0);
        due("24: no window", x.knows(4, 0), -1);
        due("24: no sign", x.knows(0, 1), -1);
        due("24: below 0", x.knows(-1, 0), -1);
        due("24: below 0", x.knows(0, -1), -1);
        // Row 1's middle sinks in week 199 alone: read behind 200 weeks.
        MownLawn behind = Check.lawn("row ccc; row cbc; row ccc; sign dot ooo oxo ooo; window a 0 2 1; height 1;"
            + " grows = (sun - 2) * ((week + 1) / 200);");
        due("24: behind 200", behind.knows(0, 0), 200);
        MownLawn not = Check.lawn("row ccc; row cbc; row ccc; sign dot ooo oxo ooo; window a 0 2 1; height 1;"
            + " grows = (sun - 2) * ((week + 1) / 201);");
        due("24: not within 200", not.knows(0, 0), -2);
    }

    private static void promise25() {
        MownLawn x = Check.lawn("row pbc; height 5;");
        due("25: paved", x.then(0, 0, 60), 0);
        due("25: now", x.then(1, 0, 0), 5);
        due("25: in 7", x.then(1, 0, 7), 12);
        due("25: in 60", x.then(2, 0, 60), 99);
        due("25: nothing happens", x.cell(2, 0, 0), 5);
        due("25: -1", x.then(1, 0, -1), -1);
        due("25: 61", x.then(1, 0, 61), -1);
        due("25: no cell", x.then(3, 0, 0), -1);
        due("25: no cell", x.then(0, 1, 0), -1);
    }

    private static void promise26() {
        MownLawn x = Check.lawn("row pbc; row bbc; height 5;");
        due("26: tallest now", x.all(0, 0, 0), 5);
        due("26: where now", x.all(0, 1, 0), 1);
        due("26: together now", x.all(0, 2, 0), 25);
        due("26: grass alone", x.all(0, 3, 0), 5);
        due("26: tallest", x.all(3, 0, 0), 11);
        due("26: where", x.all(3, 1, 0), 2);
        due("26: together", x.all(3, 2, 0), 46);
        due("26: as high as 8", x.all(3, 3, 8), 5);
        due("26: as high as 9", x.all(3, 3, 9), 2);
        due("26: as high as 99", x.all(60, 3, 99), 2);
        due("26: h is looked at for 3 alone", x.all(3, 2, 100), 46);
        due("26: h 100", x.all(3, 3, 100), -1);
        due("26: h -1", x.all(3, 3, -1), -1);
        due("26: what 4", x.all(3, 4, 0), -1);
        due("26: what -1", x.all(3, -1, 0), -1);
        due("26: n -1", x.all(-1, 0, 0), -1);
        due("26: n 61", x.all(61, 0, 0), -1);
        due("26: nothing happens", x.count(4), 0);
        MownLawn paved = Check.lawn("row pp;");
        due("26: paved", paved.all(5, 0, 0), 0);
        due("26: paved, where", paved.all(5, 1, 0), 0);
        due("26: paved, none of grass", paved.all(5, 3, 0), 0);
    }

    private static void promise27() {
        // Rain lets the middle sink: read in two weeks if it rained in both.
        MownLawn x = Check.lawn("row ccc; row cbc; row ccc; sign dot ooo oxo ooo; window a 0 2 8; window b 0 1 0; seed 9990;"
            + " rain 60 4; grows = (sun - 2) * wet;");
        int due = 0;
        for (int seed = 9990; seed < 10010; seed++) {
            if (lot(100, seed, 0) < 60 && lot(100, seed, 4) < 60) {
                due++;
            }
            due("27: " + seed, x.year(0, 0, 2, seed - 9989), due);
        }
        due("27: some do, some do not", due > 0 && due < 20 ? 1 : 0, 1);
        due("27: now", x.year(0, 0, 0, 20), 0);
        due("27: not seen", x.year(1, 0, 2, 20), 0);
        due("27: s 0", x.year(0, 0, 2, 0), -1);
        due("27: s 21", x.year(0, 0, 2, 21), -1);
        due("27: n -1", x.year(0, 0, -1, 1), -1);
        due("27: n 61", x.year(0, 0, 61, 1), -1);
        due("27: no window", x.year(2, 0, 2, 1), -1);
        due("27: no sign", x.year(0, 1, 2, 1), -1);
        x.weeks(1);
        int later = 0;
        int first = lot(100, 9990, 0) < 60 ? 1 : 0;
        for (int seed = 9990; seed < 10010; seed++) {
            later += first == 1 && lot(100, seed, 4) < 60 ? 1 : 0;
        }
        due("27: from what is", x.year(0, 0, 1, 20), later);
    }

    private static void promises28And29() {
        MownLawn x = Check.lawn("row pc;");
        due("28: no cell", x.tell(2, 0, 1), -1);
        due("28: no cell", x.tell(0, -1, 1), -1);
        due("28: high -1", x.tell(0, 0, -1), -1);
        due("28: high 100", x.tell(0, 0, 100), -1);
        due("28: none is there", x.count(10), 0);
        for (int i = 0; i < 20; i++) {
            due("28: its number", x.tell(i % 2, 0, i == 0 ? 0 : 99), i);
        }
        due("28: 20 are there", x.tell(0, 0, 0), -1);
        due("28: count(10)", x.count(10), 20);
        due("28: is no thing done", x.count(9), 0);
        due("29: how many", x.forget(), 20);
        due("29: none", x.forget(), 0);
        due("29: count(10)", x.count(10), 0);
        due("28: from 0 on again", x.tell(1, 0, 20), 0);
        due("29: k", x.blades(1), 0);
        due("29: no such k", x.blades(2), -1);
    }

    private static void promises30To32() {
        MownLawn x = Check.lawn("row cccc; row cccc; row cccc; sign dot ooo oxo ooo; sign no ooo ooo ooo; height 10;"
            + " grows = 1;");
        due("30: in week 0", x.blades(0), 4);
        x.weeks(3);
        due("30: 2 signs, 2 places, 4 weeks", x.blades(0), 16);
        due("31: this or that", x.sure(0, 0), -2);
        due("31: Y", x.sure(0, 2), 0);
        // Cell (1, 1): 13 in 12 of the 16, else 3, 2, 1, 0; so (2, 1); all others are 13 in all.
        due("32: ask", x.ask(0), 11);
        due("28: tell", x.tell(1, 1, 2), 0);
        due("30: one", x.blades(1), 1);
        due("31: sign", x.sure(1, 0), 0);
        due("31: X", x.sure(1, 1), 0);
        due("31: Y", x.sure(1, 2), 0);
        due("31: weeks ago", x.sure(1, 3), 2);
        due("32: of alike ones by Y, then by X", x.ask(1), 0);
        due("28: tell", x.tell(2, 1, 5), 1);
        due("30: none", x.blades(2), 0);
        due("30: the first k", x.blades(1), 1);
        due("31: no blades", x.sure(2, 3), -2);
        due("32: no blades", x.ask(2), -2);
        due("30: k -1", x.blades(-1), -1);
        due("30: k 3", x.blades(3), -1);
        due("31: k 3", x.sure(3, 0), -1);
        due("31: what 4", x.sure(0, 4), -1);
        due("31: what -1", x.sure(2, -1), -1);
        due("32: k 3", x.ask(3), -1);
        due("32: k -1", x.ask(-1), -1);
        x.forget();
        x.tell(1, 1, 13);
        due("30: not the left dot", x.blades(1), 12);
        due("32: the right one", x.ask(1), 12);
        // Each of the three finds its own way to the week that it is.
        x.weeks(1);
        due("32: in week 4", x.ask(0), 11);
        x.weeks(1);
        due("31: in week 5", x.sure(0, 2), 0);
        x.forget();
        x.tell(1, 1, 4);
        due("31: in week 5, cut 4 ago", x.sure(1, 3), 4);
        x.undo();
        due("31: in week 4, cut 4 ago", x.sure(1, 3), 4);
        x.tell(2, 1, 14);
        x.undo();
        due("31: in week 3, none", x.sure(1, 3), -2);
        x.forget();
        x.tell(1, 1, 13);
        // What was done by hand is nothing to the BLADES.
        x.mow(0);
        due("30: from the text's begin on nothing else being done", x.blades(1), 12);
        x.weeks(40);
        x.forget();
        due("30: 0 .. 30 weeks ago", x.blades(0), 124);
        x.tell(1, 1, 30);
        due("30: 30 weeks ago", x.blades(1), 1);
        due("31: 30 weeks ago", x.sure(1, 3), 30);
        x.forget();
        x.tell(1, 1, 31);
        due("30: 31 weeks ago is too long", x.blades(1), 0);
        x.undo();
        due("30: in week 3 again", x.blades(0), 16);
        x.weeks(1);
        due("30: in week 4", x.blades(0), 20);
        due("30: in week 4, 31 high", x.blades(1), 0);
        // Cut when all was 8 high: 1 high behind that week (8 / 5), 30 high 29 weeks later.
        MownLawn old = Check.lawn(DOT + "height 5; grows = if tall < 1 then beside / 5 else 1;");
        old.weeks(3);
        old.cut(0, 0, 0);
        old.weeks(30);
        due("30: cut 30 weeks ago", old.cell(1, 1, 0), 30);
        old.tell(1, 1, 30);
        due("30: cut 30 weeks ago", old.blades(1), 1);
        due("31: cut 30 weeks ago", old.sure(1, 3), 30);
        MownLawn first = Check.lawn("row cccc; row cccc; row cccc; sign dot ooo oxo ooo;");
        due("32: ahead of all else", first.ask(0), 11);
        MownLawn paved = Check.lawn("row pccc; row cccc; row cccc; sign dot ooo oxo ooo;");
        paved.tell(0, 0, 0);
        due("30: paved is 0 high", paved.blades(1), 2);
        paved.tell(0, 0, 3);
        due("30: paved is not 3 high", paved.blades(2), 0);
        MownLawn small = Check.lawn("row cc; row cc; row cc; sign dot ooo oxo ooo;");
        due("30: no place", small.blades(0), 0);
        due("31: no place", small.sure(0, 0), -2);
        due("32: no place", small.ask(0), -2);
    }

    /** What was truly cut, once, is among the BLADES when all of the lawn was measured. */
    private static void replayed() {
        String[] laws = {"sun - 1", "if tall < beside then 2 else 0", "(beside - tall) / 3", "beside - tall + wet",
            "if beside < 20 then 0 - 1 else across - down", "if tall < 12 then 1 + wet else 0 - beside / 9",
            "(beside - tall) / 2 - wet", "if beside < tall then 0 - 2 else 1"};
        for (String law : laws) {
            for (int which = 0; which < 120; which++) {
                int ago = which % 10;
                int x = which % 3;
                int y = which / 3 % 2;
                int sign = which / 6 % 2;
                MownLawn lawn = Check.lawn("row bcbdc; row ccpcb; row dbccd; row cbcbc; sign s xoo oxo ooo;"
                    + " sign t ooo oox oxo; height 15; rain 50 2; seed 5; grows = " + law + ";");
                lawn.weeks(9 - ago);
                lawn.cut(sign, x, y);
                lawn.weeks(ago);
                for (int i = 0; i < 20; i++) {
                    lawn.tell(i % 5, i / 5, lawn.cell(i % 5, i / 5, 0));
                }
                int found = lawn.blades(20);
                String told = law + ", sign " + sign + " at " + x + ", " + y + ", " + ago + " weeks ago";
                Check.due("30: " + told, found > 0, true);
                if (found == 1) {
                    due("31: sign: " + told, lawn.sure(20, 0), sign);
                    due("31: X: " + told, lawn.sure(20, 1), x);
                    due("31: Y: " + told, lawn.sure(20, 2), y);
                    due("31: weeks ago: " + told, lawn.sure(20, 3), ago);
                }
            }
        }
    }

    private static void promises33And34() {
        MownLawn x = Check.lawn(DOT + "window a 0 2 5;");
        Check.due("33: -1", x.hold(-1), false);
        Check.due("33: 3", x.hold(3), false);
        Check.due("34: nothing is held", x.restore(0), false);
        x.cut(0, 0, 0);
        x.nourish(0, 0);
        x.weeks(2);
        Check.due("33: hold(0)", x.hold(0), true);
        due("33: can still be undone", x.count(9), 3);
        x.mow(3);
        x.weeks(5);
        x.cut(0, 0, 0);
        x.tell(0, 0, 7);
        Check.due("33: hold(2)", x.hold(2), true);
        due("35: slots", x.count(11), 2);
        Check.due("34: restore(1)", x.restore(1), false);
        Check.due("34: restore(3)", x.restore(3), false);
        Check.due("34: restore(-1)", x.restore(-1), false);
        due("34: nothing happens", x.count(9), 6);
        Check.due("34: restore(0)", x.restore(0), true);
        due("34: nothing can be undone", x.count(9), 0);
        due("34: week", x.count(4), 2);
        due("34: high", x.cell(1, 1, 0), 4);
        due("34: high", x.cell(0, 0, 0), 24);
        due("34: fines", x.count(5), 1);
        due("34: cuts", x.sign(0, 2), 1);
        due("34: known", x.window(0, 3), 1);
        due("34: what is told stays", x.count(10), 1);
        x.weeks(1);
        due("34: goes on", x.count(9), 1);
        Check.due("34: it stays there", x.restore(0), true);
        due("34: week", x.count(4), 2);
        Check.due("34: restore(2)", x.restore(2), true);
        due("34: week", x.count(4), 7);
        due("34: cuts", x.count(6), 2);
        x.weeks(4);
        Check.due("33: over what it held", x.hold(0), true);
        due("35: slots", x.count(11), 2);
        x.undo();
        Check.due("34: restore(0)", x.restore(0), true);
        due("34: week", x.count(4), 11);
    }

    private static void promise35() {
        MownLawn x = Check.lawn("row cpcc; row cccc; row cccc; sign dot ooo oxo ooo; window a 0 2 5; window b 0 2 5;"
            + " window c 0 2 5; talk a b; talk c b; rain 100 4;");
        x.feed(0, 0, 0, 0, 0);
        x.cut(0, 0, 0);
        x.cut(0, 1, 0);
        x.weeks(3);
        x.tell(0, 0, 0);
        x.hold(1);
        int[] due = {4, 3, 1, 3, 3, 2, 2, 4, 20, 3, 1, 1, 11, 2};
        for (int what = 0; what < due.length; what++) {
            due("35: count(" + what + ")", x.count(what), due[what]);
        }
        due("35: count(14)", x.count(14), -1);
        due("35: count(-1)", x.count(-1), -1);
        due("35: count(least)", x.count(LOW), -1);
        due("35: count(greatest)", x.count(TOP), -1);
    }
}
