import java.io.IOException;

/** A test for each sentence of the document's first Terms (the text, its limits, its faults) that names a boundary. */
public final class TextBoundariesTest {
    private static final String READ = "Promises 4 and 5";
    private static final String[] WORDS = {"row", "sign", "window", "talk", "grows", "feeds", "fines", "height", "rain",
        "seed", "if", "then", "else", "tall", "sun", "week", "wet", "food", "across", "down", "beside", "size"};
    private static final String LAWN = "row ccc; row ccc; row ccc; sign s xoo ooo ooo; window w 0 2 1; window v 0 2 9; ";
    private static final String FOUR_WINDOWS = "window a 0 7 0; window b 0 7 0; window c 0 7 0; window d 0 7 0; ";
    private static final String SIX_TALKS = "talk a b; talk a c; talk a d; talk b c; talk b d; talk c d; ";
    private static final String ARM = "if 1 < 2 then 3 else ";

    private TextBoundariesTest() { }

    public static void main(String[] args) throws IOException {
        Sentences.open();
        text();
        limits();
        faults();
        anew();
        Sentences.end();
    }

    private static void text() {
        Sentences.of("Promises 2, 4 and 5", "I", "A TEXT has 2,000 bytes at most.", TextBoundariesTest::longestText);
        Sentences.of(READ, "I", "TOKENS, the longest that can be, with blanks (9, 10, 13, 32) between or not",
            TextBoundariesTest::blanks);
        Sentences.of(READ, "I", "NAMES (letters a .. z, 8 at most, none of the words in quotes)", TextBoundariesTest::names);
        Sentences.of(READ, "I", "INTS (1 to 4 digits)", TextBoundariesTest::ints);
        Sentences.of(READ, "I", "SIGNS ; = + - * / < ( ) . A longer one, all else, is no TOKEN.",
            TextBoundariesTest::noTokens);
        Sentences.of(READ, "I", "text: {TELL}.", TextBoundariesTest::emptyText);
        Sentences.of(READ, "I", "LAW: '=' {'if' E '<' E 'then' E 'else'} E.", TextBoundariesTest::lawWithoutIf);
        Sentences.of(READ, "I", "E: PART {('+' | '-') PART}. PART: UNIT {('*' | '/') UNIT}.", TextBoundariesTest::parts);
        Sentences.of(READ, "I", "UNIT: INT | VAR | '(' E ')'.", TextBoundariesTest::units);
    }

    private static void longestText() {
        MownLawn full = new MownLawn();
        Check.feed(full, "height" + " ".repeat(1992) + "7;");
        Check.due("count(8)", full.count(8), 2000);
        Check.due("read() of 2,000 bytes", full.read(), 0);
        Check.fault(1, "seed" + " ".repeat(1995) + "1@");
        Check.fault(1, "seed 1;" + " ".repeat(1992) + "@?");
        Check.fine("row ccc;" + " ".repeat(1984) + "row ccc;");
    }

    private static void blanks() {
        for (int b = 0; b < 256; b++) {
            char between = (char) b;
            if (b == 9 || b == 10 || b == 13 || b == 32) {
                Check.fine("row" + between + "abc" + between + ";" + between);
                Check.fine(between + "row abc;");
            } else if (between >= 'a' && between <= 'z') {
                Check.fault(1, "@row" + between + "abc;");
            } else if (between != '@') {
                Check.fault(1, "row@" + between + "abc;");
            }
        }
        Check.fine("row abc;row abc;grows=if 1<2then 3else(4+5)*tall;seed 1;");
        Check.fine("window w 0 7 99;");
        Check.fault(1, "window w 07 99@;");
        Check.fault(1, "seed 1 @2;");
        Check.fault(1, "row ab @c;");
    }

    private static void names() {
        Check.fine("row a; row z;");
        Check.fine("row abcdefgh;");
        Check.fault(1, "row @abcdefghi;");
        Check.fault(1, "row @" + "z".repeat(40) + ";");
        Check.fine("sign abcdefgh xxx xxx xxx; window abcdefgi 0 0 0;");
        Check.fault(1, "sign @abcdefghi xxx xxx xxx;");
        Check.fault(1, "row @`;");
        Check.fault(1, "row @{;");
        Check.fault(1, "row @A;");
        Check.fault(1, "row @Z;");
        Check.fault(1, "row a@`;");
        Check.fault(1, "row z@{;");
        for (String word : WORDS) {
            Check.fault(1, "row @" + word + ";");
            Check.fault(1, "window @" + word + " 0 0 0;");
            Check.fault(1, LAWN + "talk w @" + word + ";");
            Check.fine("window " + word + "s 0 0 0; window x" + word + " 0 0 0;");
            Check.fine("row " + word.substring(1) + ";");
        }
    }

    private static void ints() {
        Check.fault(1, "seed @;");
        for (int digit = 0; digit < 10; digit++) {
            Check.fine("seed " + digit + ";");
        }
        Check.fine("seed 9999; grows = 9999;");
        Check.fine("seed 0000; grows = 0009;");
        Check.fault(1, "seed @10000;");
        Check.fault(1, "seed @00000;");
        Check.fault(1, "grows = @00001;");
        Check.fault(1, "seed @" + "1".repeat(40) + ";");
        Check.fault(1, "seed @/;");
        Check.fault(1, "seed @:;");
        Check.fault(1, "seed 9@:");
        MownLawn high = Check.lawn("row a; height 0042;");
        Check.due("cell(0, 0, 0) of height 0042", high.cell(0, 0, 0), 42);
    }

    private static void noTokens() {
        String signs = ";=+-*/<()";
        for (int b = 33; b < 256; b++) {
            char one = (char) b;
            boolean letter = one >= 'a' && one <= 'z';
            boolean digit = one >= '0' && one <= '9';
            if (one == '@') {
                continue;
            }
            Check.fault(1, "@" + one);
            if ("+-*/".indexOf(one) >= 0) {
                Check.fine("grows = 1" + one + "1;");
            } else if (!digit && one != ';') {
                Check.fault(1, "grows = 1@" + one + (letter ? ";" : "1;"));
            }
            if (signs.indexOf(one) < 0 && !letter && !digit) {
                Check.fault(1, "row abc;@" + one);
                Check.fault(1, "row ab@" + one + "c;");
            }
        }
        for (char sign : signs.toCharArray()) {
            Check.fault(1, "seed 1;@" + sign);
        }
        Check.fine("grows = if (1) < 2 * 3 / 4 then 5 + 6 - 7 else 8;");
    }

    private static void emptyText() {
        MownLawn empty = new MownLawn();
        Check.due("read() of an empty tape", empty.read(), 0);
        Check.due("place()", empty.place(), -1);
        Check.fine(" ");
        Check.fine("\t\n\r ".repeat(500));
        Check.fault(1, "@;");
        Check.fault(1, "seed 1;@;");
        MownLawn lawn = Check.lawn(LAWN);
        Check.due("read() of an empty tape", lawn.read(), 0);
        Check.same("the empty text is in place of the one ahead", Seen.of(lawn), Seen.of(empty));
    }

    private static void lawWithoutIf() {
        for (String law : new String[] {"grows", "feeds", "fines"}) {
            Check.fine(law + " = 1;");
            Check.fine(law + " = " + ARM + "4;");
            Check.fine(law + " = " + ARM + ARM + "4;");
            Check.fault(1, law + " =@;");
            Check.fault(1, law + " @1;");
            Check.fault(1, law + " = " + ARM + "@;");
            Check.fault(1, law + " = if @< 2 then 3 else 4;");
            Check.fault(1, law + " = if 1 < @then 3 else 4;");
            Check.fault(1, law + " = if 1 < 2 then @else 4;");
            Check.fault(1, law + " = if 1 @then 3 else 4;");
            Check.fault(1, law + " = if 1 @else 4;");
            Check.fault(1, law + " = if 1 < 2 @else 4;");
            Check.fault(1, law + " = if 1 < 2 @< 3 then 4 else 5;");
            Check.fault(1, law + " = if 1 < 2 then 3 @then 4 else 5;");
            Check.fault(1, law + " = if 1 < 2 then 3 @< 4 else 5;");
            Check.fault(1, law + " = if 1 < 2 then 3 else 4 @else 5;");
            Check.fault(1, law + " = if 1 < 2 then 3@;");
            Check.fault(1, law + " = if 1 < 2 then @if 1 < 2 then 3 else 4 else 5;");
            Check.fault(1, law + " = 1 @if 1 < 2 then 3 else 4;");
        }
    }

    private static void parts() {
        Check.fine("grows = 1;");
        Check.fine("grows = 1" + "+1*2".repeat(99) + ";");
        Check.fault(1, "grows = 1 + 2 -@;");
        Check.fault(1, "grows = 1 * 2 /@;");
        Check.fault(1, "grows = @* 2;");
        Check.fault(1, "grows = 1 + @* 2;");
        Check.fault(1, "grows = 1 * @- 2;");
        MownLawn lawn = Check.lawn("row c; grows = 2 + 3 * 4 / 6 - 8 / 2 / 2 - 1 + 9 - 3 - 2;");
        Check.due("from the left, * and / first", lawn.cell(0, 0, 3), 2 + 3 * 4 / 6 - 8 / 2 / 2 - 1 + 9 - 3 - 2);
        MownLawn longest = Check.lawn("row c; grows = 0" + "-1+1".repeat(98) + ";");
        Check.due("a long LAW", longest.cell(0, 0, 3), 0);
    }

    private static void units() {
        Check.fine("grows = (1);");
        Check.fault(1, "grows = (@);");
        Check.fault(1, "grows = @-1;");
        Check.fault(1, "grows = 1 + @+ 1;");
        Check.fault(1, "grows = 1 -@;");
        Check.fault(1, "grows = (1@;");
        Check.fault(1, "grows = 1@);");
        Check.fault(1, "grows = (1 @< 2);");
        Check.fault(1, "grows = (@if 1 < 2 then 3 else 4);");
        Check.fault(1, "grows = 1 @tall;");
        Check.fault(1, "grows = tall @(1);");
        Check.fault(1, "grows = @tal;");
        Check.fault(1, "grows = @row;");
    }

    private static void limits() {
        Sentences.of("Promises 4, 6 and 35", "I",
            "ROWS, 6 at most (Y 0 .. , by the order told), all as long as the first one (the lawn's WIDTH, X 0 ..)",
            TextBoundariesTest::rows);
        Sentences.of("Promise 6", "I", "'p' PAVED, any other one GRASS with SUN by the letter's place (a: 0 .. z: 25)",
            TextBoundariesTest::suns);
        Sentences.of("Promises 4, 7 and 35", "I",
            "SIGNS, 4 at most (a NAME, three ROWS of it, each of three letters: 'x' cut, 'o' left)",
            TextBoundariesTest::signs);
        Sentences.of("Promises 4, 8 and 35", "I", "WINDOWS, 4 at most (a NAME, from which X to which X it sees 0 .. 7,"
            + " how SHARP 0 .. 99: by how much a sign must stand out)", TextBoundariesTest::windows);
        Sentences.of("Promises 4, 8 and 35", "I",
            "TALKS, 6 at most (two WINDOWS, either way), numbered each from 0 on as they stand.", TextBoundariesTest::talks);
        Sentences.of("Promises 6, 11 and 13", "I", "LAWS: GROWS (sun), FEEDS (2), FINES (size), if not told; the last one.",
            TextBoundariesTest::lawsNotTold);
        Sentences.of("Promises 4 and 6", "I", "HEIGHT of all GRASS at first 0 .. 99 (20)", TextBoundariesTest::heights);
        Sentences.of("Promises 4 and 35", "I",
            "RAIN: in how many of 100 weeks, and by how much (0, 0; 0 .. 100, 0 .. 9)", TextBoundariesTest::rains);
        Sentences.of("Promises 4 and 35", "I", "SEED 0 .. 9999 (0): the last one.", TextBoundariesTest::seeds);
    }

    private static void rows() {
        MownLawn six = Check.lawn("row aa; row ba; row ca; row da; row ea; row fa;");
        Check.due("count(1)", six.count(1), 6);
        Check.due("count(0)", six.count(0), 2);
        for (int y = 0; y < 6; y++) {
            Check.due("cell(0, " + y + ", 1)", six.cell(0, y, 1), y);
        }
        Check.fault(2, "row aa; row ba; row ca; row da; row ea; row fa; @row ga;");
        MownLawn widest = Check.lawn("row abcdefgh; row hgfedcba;");
        Check.due("count(0)", widest.count(0), 8);
        Check.due("cell(7, 1, 1)", widest.cell(7, 1, 1), 0);
        Check.due("cell(7, 0, 1)", widest.cell(7, 0, 1), 7);
        MownLawn least = Check.lawn("row d;");
        Check.due("count(0)", least.count(0), 1);
        Check.due("count(12)", least.count(12), 1);
        Check.fault(6, "row aa; row @a;");
        Check.fault(6, "row aa; row aa; row aa; row aa; row aa; row @aaa;");
        Check.fault(6, "row abcdefgh; row @a;");
    }

    private static void suns() {
        MownLawn lawn = Check.lawn("row abcdefgh; row ijklmnop; row qrstuvwx; row yzyzyzyz;");
        for (int i = 0; i < 26; i++) {
            Check.due("cell(" + i % 8 + ", " + i / 8 + ", 1)", lawn.cell(i % 8, i / 8, 1), i == 15 ? -2 : i);
            Check.due("cell(" + i % 8 + ", " + i / 8 + ", 0)", lawn.cell(i % 8, i / 8, 0), i == 15 ? 0 : 20);
        }
        Check.due("count(12)", lawn.count(12), 31);
        MownLawn paved = Check.lawn("row pp; row pp;");
        Check.due("count(12) of a lawn without grass", paved.count(12), 0);
    }

    private static void signs() {
        String four = "sign a xxx xxx xxx; sign b ooo ooo ooo; sign c oxo ooo oox; sign d ooo xoo ooo;";
        MownLawn lawn = Check.lawn("row ccc; row ccc; row ccc;" + four);
        int[] cut = {9, 0, 2, 1};
        Check.due("count(2)", lawn.count(2), 4);
        for (int sign = 0; sign < 4; sign++) {
            Check.due("sign(" + sign + ", 0)", lawn.sign(sign, 0), cut[sign]);
        }
        lawn.cut(2, 0, 0);
        int[] high = {20, 0, 20, 20, 20, 20, 20, 20, 0};
        for (int i = 0; i < 9; i++) {
            Check.due("cell " + i, lawn.cell(i % 3, i / 3, 0), high[i]);
        }
        Check.fault(2, four + "@sign e xxx ooo xxx;");
        Check.fault(1, "sign a xxx xxx@;");
        Check.fault(1, "sign a xxx xxx xxx @xxx;");
        Check.fault(6, "sign a xxx xxx @xx;");
        Check.fault(6, "sign a @xxxx xxx xxx;");
    }

    private static void windows() {
        MownLawn lawn = Check.lawn("window a 0 7 99; window b 0 0 0; window c 7 7 1; window d 3 4 50;");
        int[][] due = {{0, 7, 99}, {0, 0, 0}, {7, 7, 1}, {3, 4, 50}};
        Check.due("count(3)", lawn.count(3), 4);
        for (int window = 0; window < 4; window++) {
            for (int what = 0; what < 3; what++) {
                Check.due("window(" + window + ", " + what + ")", lawn.window(window, what), due[window][what]);
            }
        }
        Check.fault(2, FOUR_WINDOWS + "@window e 0 0 0;");
        Check.fault(5, "window a @8 8 0;");
        Check.fault(5, "window a 7 @8 0;");
        Check.fault(5, "window a 0 7 @100;");
    }

    private static void talks() {
        MownLawn lawn = Check.lawn(FOUR_WINDOWS + SIX_TALKS);
        Check.due("count(13)", lawn.count(13), 6);
        for (int window = 0; window < 4; window++) {
            Check.due("window(" + window + ", 4)", lawn.window(window, 4), 15 - (1 << window));
        }
        Check.fault(2, FOUR_WINDOWS + SIX_TALKS + "@talk a b;");
        MownLawn one = Check.lawn(FOUR_WINDOWS + "talk d b;");
        Check.due("window(3, 4)", one.window(3, 4), 2);
        Check.due("window(1, 4)", one.window(1, 4), 8);
        Check.due("window(0, 4)", one.window(0, 4), 0);
        MownLawn none = Check.lawn(FOUR_WINDOWS);
        Check.due("count(13) without a talk", none.count(13), 0);
    }

    private static void lawsNotTold() {
        MownLawn lawn = Check.lawn("row afj; row afj; row afj; sign s xxo ooo oxx;");
        Check.due("cell(0, 0, 3)", lawn.cell(0, 0, 3), 0);
        Check.due("cell(1, 0, 3)", lawn.cell(1, 0, 3), 5);
        Check.due("cell(2, 0, 3)", lawn.cell(2, 0, 3), 9);
        Check.due("nourish(0, 0)", lawn.nourish(0, 0), 2);
        Check.due("cut(0, 0, 0)", lawn.cut(0, 0, 0), 4);
        MownLawn told = Check.lawn("row aaa; row aaa; row aaa; sign s xxo ooo oxx; grows = 1; feeds = 3; fines = 5;"
            + " grows = 2; feeds = 4; fines = 6;");
        Check.due("cell(0, 0, 3), told twice", told.cell(0, 0, 3), 2);
        Check.due("nourish(0, 0), told twice", told.nourish(0, 0), 4);
        Check.due("cut(0, 0, 0), told twice", told.cut(0, 0, 0), 6);
        // What a former text told is not told any more.
        Check.feed(told, "row fff; row fff; row fff; sign s xxo ooo oxx;");
        Check.due("read()", told.read(), 0);
        Check.due("cell(0, 0, 3), not told", told.cell(0, 0, 3), 5);
        Check.due("nourish(0, 0), not told", told.nourish(0, 0), 2);
        Check.due("cut(0, 0, 0), not told", told.cut(0, 0, 0), 4);
    }

    private static void heights() {
        Check.due("not told", Check.lawn("row cp;").cell(0, 0, 0), 20);
        Check.due("0", Check.lawn("row cp; height 0;").cell(0, 0, 0), 0);
        Check.due("99", Check.lawn("row cp; height 99;").cell(0, 0, 0), 99);
        Check.due("99, PAVED", Check.lawn("row cp; height 99;").cell(1, 0, 0), 0);
        Check.due("the last one", Check.lawn("height 5; row cp; height 6;").cell(0, 0, 0), 6);
        Check.fault(5, "height @100;");
        Check.fault(5, "height @9999;");
        Check.fault(5, "height @100; height 5;");
    }

    private static void rains() {
        MownLawn dry = Check.lawn("row c;");
        MownLawn never = Check.lawn("row c; rain 0 9;");
        MownLawn always = Check.lawn("row c; rain 100 9;");
        MownLawn drops = Check.lawn("row c; rain 100 0;");
        MownLawn last = Check.lawn("row c; rain 0 0; rain 100 4;");
        for (int week = 0; week < 100; week++) {
            Check.due("not told: rain in week " + week, dry.count(7), 0);
            Check.due("rain 0 9 in week " + week, never.count(7), 0);
            Check.due("rain 100 9 in week " + week, always.count(7), 9);
            Check.due("rain 100 0 in week " + week, drops.count(7), 0);
            Check.due("rain 100 4, the last one, in week " + week, last.count(7), 4);
            dry.weeks(1);
            never.weeks(1);
            always.weeks(1);
            drops.weeks(1);
            last.weeks(1);
        }
        Check.fault(5, "rain @101 0;");
        Check.fault(5, "rain 100 @10;");
        Check.fault(5, "rain @101 10;");
    }

    private static void seeds() {
        String rain = "row c; rain 50 9; ";
        Check.same("not told", rainsOf(rain), rainsOf(rain + "seed 0;"));
        Check.same("the last one", rainsOf(rain + "seed 1; seed 9999;"), rainsOf(rain + "seed 9999;"));
        Check.due("0 is not 9999", rainsOf(rain).equals(rainsOf(rain + "seed 9999;")), false);
        Check.fine("seed 9999;");
        Check.fine("seed 0;");
        Check.fault(1, "seed @10000;");
    }

    private static String rainsOf(String text) {
        MownLawn lawn = Check.lawn(text);
        StringBuilder rains = new StringBuilder();
        for (int week = 0; week < 60; week++) {
            rains.append(lawn.count(7));
            lawn.weeks(1);
        }
        return rains.toString();
    }

    private static void faults() {
        Sentences.of(READ, "I",
            "FAULTS of a text, the first by its place (a byte; the text's end: its length), of one place the least:",
            TextBoundariesTest::firstByPlace);
        Sentences.of(READ, "I", "1 SYNTAX: a TOKEN, or what is none, with which no text goes on.",
            TextBoundariesTest::syntax);
        Sentences.of(READ, "I", "2 ROOM: a 401st TOKEN;", TextBoundariesTest::tooManyTokens);
        Sentences.of(READ, "I", "one more of a sort than told (at its first TOKEN);", TextBoundariesTest::oneMore);
        Sentences.of(READ, "I", "a 5th if of a LAW (at it);", TextBoundariesTest::fifthIf);
        Sentences.of(READ, "I", "a 7th ( within one another (at it).", TextBoundariesTest::seventhBracket);
        Sentences.of(READ, "I", "If there is none, likewise: 3 TWICE: a NAME told already (of SIGNS and WINDOWS together);",
            TextBoundariesTest::twice);
        Sentences.of(READ, "I", "(at the second NAME) a TALK of one with itself, or that there is already.",
            TextBoundariesTest::talkTwice);
        Sentences.of(READ, "I",
            "4 NAME: (at it) no such WINDOW told ahead (a NAME told more than once is that of the first one).",
            TextBoundariesTest::noSuchWindow);
        Sentences.of(READ, "I", "5 WRONG (at the INT): a number not as told above;", TextBoundariesTest::wrongNumber);
        Sentences.of(READ, "I", "a WINDOW's second X less than the first one.", TextBoundariesTest::secondLess);
        Sentences.of(READ, "I", "6 SHAPE (at it): a ROW of another length than the first one's;",
            TextBoundariesTest::otherLength);
        Sentences.of(READ, "I", "a sign's ROW that is not of three letters 'x', 'o'.", TextBoundariesTest::signRow);
    }

    private static void firstByPlace() {
        Check.fault(1, "@?");
        Check.fault(1, "row@");
        Check.fault(1, "row   \n@");
        Check.fault(1, "seed 1; row abc@");
        Check.fault(1, "row @; row ;");
        // Of one place the least: the 401st token goes on with no text.
        Check.fault(1, "seed 1;".repeat(133) + "seed @;");
        Check.fault(2, "row a;".repeat(6) + "@row a; ?");
        Check.fault(1, "row a;".repeat(5) + "@? row a; row a;");
        // 3 to 6 count only if there is none of 1 and 2, however late.
        Check.fault(1, "height 100; row abc; row a; talk a a;" + " ".repeat(900) + "@?");
        Check.fault(2, "height 100; " + "row a;".repeat(6) + "@row a;");
        Check.fault(1, "height 100; seed 1@");
        Check.fault(5, "height @100; row ab; row a; talk a b;");
        Check.fault(6, "row ab; row @a; height 100; talk a b;");
        Check.fault(4, "talk @a b; row ab; row a; height 100;");
        Check.fault(3, LAWN + "sign @s abc abc abc; height 100;");
    }

    private static void syntax() {
        for (String word : WORDS) {
            boolean begins = "row sign window talk grows feeds fines height rain seed".contains(word) && word.length() > 2;
            Check.fault(1, begins ? word + "@" : "@" + word + ";");
        }
        String[] whole = {"row abc ;", "sign s xxx ooo xxx ;", "window w 0 2 9 ;", "grows = 1 + ( 2 - 3 ) * 4 / 5 ;",
            "feeds = if tall < 3 then 4 else if 5 < sun then 6 else 7 ;", "fines = size ;", "height 9 ;", "rain 9 9 ;",
            "seed 9 ;", "window w 0 1 2 ; window v 0 1 2 ; talk w v ;"};
        for (String text : whole) {
            Check.fine(text);
            String[] tokens = text.split(" ");
            String ahead = "";
            for (int t = 0; t < tokens.length; t++) {
                if (t > 0 && !tokens[t - 1].equals(";")) {
                    Check.fault(1, ahead + "@");
                    Check.fault(1, ahead + (tokens[t].equals("=") ? "@(" : "@="));
                }
                Check.fault(1, ahead + "@$");
                Check.fault(1, ahead + "@abcdefghi");
                Check.fault(1, ahead + "@12345");
                ahead += tokens[t] + " ";
            }
        }
    }

    private static void tooManyTokens() {
        Check.fine("seed 1;".repeat(132) + "rain 1 1;");
        Check.fine("seed 1;".repeat(132) + "rain 1 1;" + " ".repeat(100));
        Check.fault(2, "seed 1;".repeat(133) + "seed @1;");
        Check.fault(2, "seed 1;".repeat(132) + "rain 1 1;" + "@seed");
        Check.fault(2, "seed 1;".repeat(132) + "rain 1 1;" + "   @row abc;");
        Check.fault(2, "grows = 1" + "+1".repeat(198) + "+@1;");
        Check.fine("grows = 1" + "+1".repeat(198) + ";");
        // A semicolon is the 401st.
        Check.fault(2, "rain 1 1;".repeat(2) + "seed 1;".repeat(130) + "seed 1@;");
    }

    private static void oneMore() {
        Check.fault(2, "row a;".repeat(6) + "  @row a;");
        Check.fault(2, "row a;".repeat(6) + "@row");
        String four = "sign e xxx xxx xxx; sign f xxx xxx xxx; sign g xxx xxx xxx; sign h xxx xxx xxx; ";
        Check.fault(2, four + "@sign i xxx xxx xxx;");
        Check.fault(2, four + "@sign");
        Check.fault(2, FOUR_WINDOWS + "@window e 0 0 0;");
        Check.fault(2, FOUR_WINDOWS + "@window ?");
        Check.fault(2, FOUR_WINDOWS + SIX_TALKS + "@talk a b;");
        Check.fault(2, FOUR_WINDOWS + SIX_TALKS + "@talk;");
        Check.fine(FOUR_WINDOWS + SIX_TALKS + four + "row a;".repeat(6));
        // Talks that are at fault count too.
        Check.fault(2, "window a 0 0 0;" + "talk a a;".repeat(6) + "@talk a a;");
        Check.fault(2, "talk x y;".repeat(6) + "@talk x y;");
        Check.fault(3, "window a 0 0 0; talk a @a;" + "talk a a;".repeat(5));
    }

    private static void fifthIf() {
        for (String law : new String[] {"grows", "feeds", "fines"}) {
            Check.fine(law + " = " + ARM.repeat(4) + "5;");
            Check.fault(2, law + " = " + ARM.repeat(4) + "@if 1 < 2 then 3 else 5;");
            Check.fault(2, law + " = " + ARM.repeat(4) + "@if");
        }
        Check.fine("grows = " + ARM.repeat(4) + "5; grows = " + ARM.repeat(4) + "5; feeds = " + ARM.repeat(4) + "5;");
        // Four ifs, and six brackets within one another in each of their Es.
        String deep = "1+1*(1+1*(1+1*(1+1*(1+1*(1+1*(1+1*1))))))";
        MownLawn most = Check.lawn("row c; grows = if 8<" + deep + " then 1 else if " + deep + "<8 then 2 else if 3<2 then "
            + deep + " else if 9<" + deep + " then 4 else " + deep + ";");
        Check.due("all limits at once", most.cell(0, 0, 3), 8);
        Check.fault(1, "grows = " + ARM.repeat(4) + "(@if 1 < 2 then 3 else 5);");
        Check.fault(1, "grows = " + ARM.repeat(4) + "1 @if 1 < 2 then 3 else 5;");
    }

    private static void seventhBracket() {
        String six = "((((((1))))))";
        Check.fine("grows = " + six + ";");
        Check.fine("grows = " + six + " + " + six + " * " + six + ";");
        Check.fine("grows = if " + six + " < " + six + " then " + six + " else " + six + "; feeds = " + six + ";");
        Check.fine("grows = ((((((1) + (2))))));");
        Check.fault(2, "grows = ((((((@(1)))))));");
        Check.fault(2, "grows = if 1 < ((((((@(");
        Check.fault(2, "grows = ((((((1) + (2)))) + ((((@(3");
        Check.fault(1, "grows = ((((((1@(2)))))));");
        MownLawn deep = Check.lawn("row c; grows = 9 - (8 - (7 - (6 - (5 - (4 - (3 - 1))))));");
        Check.due("six within one another", deep.cell(0, 0, 3), 9 - (8 - (7 - (6 - (5 - (4 - (3 - 1)))))));
    }

    private static void twice() {
        Check.fault(3, LAWN + "sign @s xxx ooo xxx;");
        Check.fault(3, LAWN + "sign @w xxx ooo xxx;");
        Check.fault(3, LAWN + "window @s 0 0 0;");
        Check.fault(3, LAWN + "window @v 0 0 0;");
        Check.fine(LAWN + "sign ss xxx ooo xxx; window ws 0 0 0;");
        Check.fine("window abcdefgh 0 0 0; window abcdefgi 0 0 0; window abcdefg 0 0 0; sign bbcdefgh xxx xxx xxx;");
        // What rows tell are no names of signs or windows.
        Check.fine("row s; window s 0 0 0; sign xxx xxx xxx xxx;");
        Check.fault(3, "window a 0 0 0; window @a 9 9 999; talk b b;");
    }

    private static void talkTwice() {
        Check.fault(3, LAWN + "talk w @w;");
        Check.fault(3, LAWN + "talk w v; talk w @v;");
        Check.fault(3, LAWN + "talk w v; talk v @w;");
        Check.fine(FOUR_WINDOWS + "talk a b; talk b c; talk c a;");
        Check.fault(3, FOUR_WINDOWS + "talk a b; talk b c; talk c a; talk b @a;");
    }

    private static void noSuchWindow() {
        Check.fault(4, LAWN + "talk @x w;");
        Check.fault(4, LAWN + "talk w @x;");
        Check.fault(4, LAWN + "talk @x x;");
        Check.fault(4, LAWN + "talk @s w;");
        Check.fault(4, LAWN + "talk w @s;");
        Check.fault(4, "talk @a b; window a 0 0 0; window b 0 0 0;");
        Check.fault(4, "window a 0 0 0; talk a @b; window b 0 0 0;");
        Check.fault(4, LAWN + "talk @ww v;");
        // The second 'a' is at fault first; that talk is one with itself.
        Check.fault(3, "window a 0 0 0; window @a 1 1 1; talk a a;");
    }

    private static void wrongNumber() {
        Check.fault(5, "window w @8 9 100;");
        Check.fault(5, "window w 0 @8 100;");
        Check.fault(5, "window w 0 7 @100;");
        Check.fault(5, "height @100;");
        Check.fault(5, "rain @101 9;");
        Check.fault(5, "rain 100 @10;");
        Check.fine("window w 7 7 99; height 99; rain 100 9; seed 9999; grows = 9999;");
        Check.fine("window w 0 0 0; height 0; rain 0 0; seed 0; grows = 0;");
    }

    private static void secondLess() {
        Check.fault(5, "window w 1 @0 0;");
        Check.fault(5, "window w 7 @6 0;");
        Check.fine("window w 6 6 0;");
        Check.fine("window w 6 7 0;");
        Check.fault(5, "window w 7 @0 100;");
    }

    private static void otherLength() {
        Check.fault(6, "row abc; row @ab;");
        Check.fault(6, "row abc; row @abcd;");
        Check.fault(6, "row abcdefgh; row @abcdefg;");
        Check.fault(6, "row a; row @abcdefgh;");
        Check.fault(6, "row abc; row abc; row abc; row abc; row abc; row @ab;");
        Check.fault(6, "row abc; row @ab; row ab;");
        Check.fault(6, "row ab; row @abc; row ab;");
    }

    private static void signRow() {
        Check.fault(6, "sign s @x xxx xxx;");
        Check.fault(6, "sign s @xx xxx xxx;");
        Check.fault(6, "sign s @xxxx xxx xxx;");
        Check.fault(6, "sign s xxx @oooo xxx;");
        Check.fault(6, "sign s xxx ooo @xoxoxoxo;");
        Check.fault(6, "sign s @axx xxx xxx;");
        Check.fault(6, "sign s xxx @xwx xxx;");
        Check.fault(6, "sign s xxx xxx @xxy;");
        Check.fault(6, "sign s xxx xxx @nop;");
        Check.fault(6, "sign s xxx @ppp xxx;");
        Check.fine("sign s xox oxo xxo;");
    }

    private static void anew() {
        Sentences.of("Promise 4", "I", "A text with a FAULT changes nothing but the tape;",
            TextBoundariesTest::faultChangesNothing);
        Sentences.of("Promise 4", "I", "else it is in place of the one ahead: week 0, GRASS of HEIGHT, no food, nothing cut"
            + " yet, nobody knows anything; nothing can be undone, nothing is TOLD, SLOTS hold nothing.",
            TextBoundariesTest::inPlaceOfTheOneAhead);
        Sentences.of("Promise 4", "I", "else it is in place of the one ahead:", TextBoundariesTest::oneAfterTheOther);
    }

    /** Nothing is left over of any text that was read earlier, with a fault or without. */
    private static void oneAfterTheOther() {
        String[] texts = {
            "row ccc; row ccc; row ccc; sign s xxx oox oxo; sign t oxo ooo ooo; window a 0 2 3; window b 1 2 9; window c 0 1 2;"
                + " talk a b; talk b c; seed 77; rain 50 9; height 44; grows = (1 + (2 * (3 - 2))); feeds = 5; fines = 6;",
            "row ddd; row ddd; row ddd; row ddd; sign s ooo oxo ooo; window a 0 2 3; window b 0 2 3; rain 50 9;",
            "rain 50 9; window a 0 7 0; window b 0 7 0;",
            "",
            "row ppp; row pap; row ppp; sign s xoo oxo oox; window a 0 2 0; seed 3; rain 60 1; grows = wet;",
            "row b; rain 50 9; height 0;",
            "row bbb; row bbb; row bbb; sign s ooo ooo ooo; seed 9999; rain 50 9;"};
        String[] wrong = {"grows = ((((1 + 2 *", "grows = if 1 < 2 * (3 + 4 then", "talk a b;", "row ccc; row cc;", "feeds = 9; ?",
            "window a 0 2 3; sign a xxx xxx xxx;", "rain 101 9; seed 5;"};
        for (int i = 0; i < texts.length * texts.length; i++) {
            MownLawn lawn = new MownLawn();
            String last = texts[i % texts.length];
            for (String text : new String[] {texts[i / texts.length], texts[i * 3 % texts.length], last}) {
                String other = wrong[(i + text.length()) % wrong.length];
                Check.feed(lawn, other);
                Check.due("read() of " + other, lawn.read() > 0, true);
                Check.feed(lawn, text);
                Check.due("read() of " + text, lawn.read(), 0);
                lawn.blades(0);
            }
            MownLawn fresh = Check.lawn(last);
            Check.same("like the first text: " + last, Seen.of(lawn), Seen.of(fresh));
            lawn.weeks(2);
            fresh.weeks(2);
            lawn.cut(0, 0, 0);
            fresh.cut(0, 0, 0);
            Check.due("nourish(0, 0): " + last, lawn.nourish(0, 0), fresh.nourish(0, 0));
            Check.same("going on: " + last, Seen.of(lawn), Seen.of(fresh));
        }
    }

    private static MownLawn used() {
        MownLawn lawn = Check.lawn(LAWN + "talk w v; fines = 7; feeds = 4; height 30; rain 50 3; seed 77;"
            + " grows = if tall < 9 then 1 else 0;");
        lawn.weeks(2);
        lawn.hold(0);
        lawn.hold(2);
        lawn.cut(0, 0, 0);
        lawn.weeks(2);
        lawn.nourish(1, 1);
        lawn.tell(0, 0, 2);
        return lawn;
    }

    private static void faultChangesNothing() {
        String[] texts = {"row aaaa; height 5; rain 100 9; seed 3; grows = 9; feeds = 9; fines = 9; ?",
            "grows = 9; feeds = 9; fines = 9; rain 100 9; " + "row aaaa;".repeat(7),
            "row aaaa; window w 0 5 7; window w 0 0 0; grows = 9;", "row aaaa; talk w w; rain 100 9; grows = 9;",
            "row aaaa; rain 100 9; grows = 9; height 100;", "row aaaa; rain 100 9; grows = 9; row aaa;"};
        for (int fault = 1; fault <= 6; fault++) {
            MownLawn lawn = used();
            String before = Seen.of(lawn);
            Check.feed(lawn, texts[fault - 1]);
            Check.due("read() of " + texts[fault - 1], lawn.read(), fault);
            Check.due("count(8)", lawn.count(8), 0);
            Check.same("behind fault " + fault, Seen.of(lawn), before);
            MownLawn other = used();
            lawn.weeks(3);
            other.weeks(3);
            Check.same("going on behind fault " + fault, Seen.of(lawn), Seen.of(other));
            for (int i = 0; i < 5; i++) {
                Check.due("undo() behind fault " + fault, lawn.undo(), true);
            }
            Check.due("undo() behind fault " + fault, lawn.undo(), false);
            Check.due("restore(1) behind fault " + fault, lawn.restore(1), false);
            Check.due("restore(2) behind fault " + fault, lawn.restore(2), true);
            Check.due("count(4) behind fault " + fault, lawn.count(4), 2);
        }
    }

    private static void inPlaceOfTheOneAhead() {
        String next = "row pcd; row bbb; row eee; sign t oox ooo ooo; sign u ooo ooo xoo; window v 0 2 3; height 9;";
        MownLawn lawn = used();
        lawn.weeks(1);
        Check.feed(lawn, next);
        Check.due("read()", lawn.read(), 0);
        int[] counts = {3, 3, 2, 1, 0, 0, 0, 0, 0, 0, 0, 0, 8, 0};
        for (int what = 0; what < counts.length; what++) {
            Check.due("count(" + what + ")", lawn.count(what), counts[what]);
        }
        MownLawn fresh = Check.lawn(next);
        Check.same("as if it were the first", Seen.of(lawn), Seen.of(fresh));
        Check.due("cell(1, 0, 0)", lawn.cell(1, 0, 0), 9);
        Check.due("cell(1, 1, 2), food", lawn.cell(1, 1, 2), 0);
        Check.due("sign(0, 2), cut", lawn.sign(0, 2), 0);
        Check.due("sign(0, 1), known", lawn.sign(0, 1), 0);
        Check.due("window(0, 3), known", lawn.window(0, 3), 0);
        Check.due("undo()", lawn.undo(), false);
        Check.due("forget()", lawn.forget(), 0);
        for (int slot = 0; slot < 3; slot++) {
            Check.due("restore(" + slot + ")", lawn.restore(slot), false);
        }
        lawn.cut(0, 0, 0);
        fresh.cut(0, 0, 0);
        lawn.weeks(2);
        fresh.weeks(2);
        Check.same("going on", Seen.of(lawn), Seen.of(fresh));
    }
}
