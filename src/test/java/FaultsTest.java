/** Promises 4 and 5: the grammar, its limits, each fault and its byte ('@' marks it in the texts below). */
public final class FaultsTest {
    private static final String LAWN = "row ccc; sign s xoo ooo ooo; window w 0 2 1; window v 0 2 1; ";

    private FaultsTest() { }

    public static void main(String[] args) {
        tokens();
        syntax();
        laws();
        room();
        twiceAndName();
        wrong();
        shape();
        order();
        nothingChanges();
        Check.end();
    }

    private static void fine(String text) {
        Check.fine(text);
    }

    private static void fault(int number, String marked) {
        Check.fault(number, marked);
    }

    private static void tokens() {
        fine("");
        fine(" \t\r\n ");
        fine("row abcdefgh;");
        fault(1, "row @abcdefghi;");
        fault(1, "row @abcdefghijklmnopq;");
        fine("seed 9999;");
        fine("seed 0000;");
        fault(1, "seed @10000;");
        fault(1, "seed @00000;");
        fine("row\tabc\r\n;row abc;seed 1;");
        fine("grows=1+2*(3-4)/5;");
        fine("grows=if 1<2then 3else 4;");
        fault(1, "row ab@1;");
        fault(1, "row @1ab;");
        fault(1, "@rowabc;");
        fault(1, "row @Abc;");
        fault(1, "row a@Bc;");
        fault(1, "row abc@.");
        fault(1, "@\u0000");
        fault(1, "@\u00e9");
        fault(1, "row abc;@\u00ff");
        fault(1, "row abc;@\u000b");
        fault(1, "row abc;@\u000c");
        fault(1, "grows = 1 @> 2;");
        fault(1, "grows = 1 @, 2;");
        fine("window x 0 7 0;");
        fine("sign p xxx xxx xxx; window o 0 0 99;");
        fine("row p; row x; row o;");
        fine("window rows 0 0 0; window ifs 0 0 0; window el 0 0 0;");
    }

    private static void syntax() {
        fault(1, "@;");
        fault(1, "row abc;@;");
        fault(1, "@abc;");
        fault(1, "@1;");
        fault(1, "row @;");
        fault(1, "row@");
        fault(1, "row  @");
        fault(1, "row abc@");
        fault(1, "row abc  \n@");
        fault(1, "row abc @abc;");
        String[] words = {"row", "sign", "window", "talk", "grows", "feeds", "fines", "height", "rain", "seed", "if",
            "then", "else", "tall", "sun", "week", "wet", "food", "across", "down", "beside", "size"};
        for (String word : words) {
            fault(1, "row @" + word + ";");
            fault(1, "window @" + word + " 0 1 2;");
        }
        fault(1, "sign s xxx xxx@;");
        fault(1, "sign s xxx xxx xxx @xxx;");
        fault(1, "sign s xxx xxx @1;");
        fault(1, "window w 0 1@;");
        fault(1, "window w 0 1 @w;");
        fault(1, "window w 0 1 2 @3;");
        fault(1, "window w @-1 1 2;");
        fault(1, "talk a@;");
        fault(1, "talk a b @c;");
        fault(1, "height@;");
        fault(1, "height 1 @2;");
        fault(1, "rain 1@;");
        fault(1, "rain 1 2 @3;");
        fault(1, "seed @a;");
        fault(1, "seed 1@");
        fault(1, "grows @1;");
        fault(1, "grows @;");
        fault(1, "@if 1 < 2 then 3 else 4;");
    }

    private static void laws() {
        fine("grows = tall+sun+week+wet+food+across+down+beside+size;");
        fine("feeds = tall+sun+week+wet+food+across+down+beside+size;");
        fine("fines = tall+sun+week+wet+food+across+down+beside+size;");
        fault(1, "grows =@;");
        fault(1, "grows = @-1;");
        fault(1, "grows = @+ 1;");
        fault(1, "grows = 1 +@;");
        fault(1, "grows = 1 + @* 2;");
        fault(1, "grows = 1 @2;");
        fault(1, "grows = 1 @tall;");
        fault(1, "grows = @tail;");
        fault(1, "grows = 1 @( 2 );");
        fault(1, "grows = (@);");
        fault(1, "grows = (1@;");
        fault(1, "grows = (1 + (2)@;");
        fault(1, "grows = 1@);");
        fault(1, "grows = (1)@);");
        fault(1, "grows = 1 @< 2;");
        fault(1, "grows = 1 @then 2;");
        fault(1, "grows = 1 @else 2;");
        fault(1, "grows = 1 + @if 1 < 2 then 3 else 4;");
        fault(1, "grows = (@if 1 < 2 then 3 else 4);");
        fault(1, "grows = if @if 1 < 2 then 3 else 4;");
        fault(1, "grows = if 1@;");
        fault(1, "grows = if 1 @then 2 else 3;");
        fault(1, "grows = if 1 < 2@;");
        fault(1, "grows = if 1 < 2 @< 3 then 4 else 5;");
        fault(1, "grows = if 1 < 2 @else 3;");
        fault(1, "grows = if 1 < 2 then 3@;");
        fault(1, "grows = if 1 < 2 then 3 @then 4 else 5;");
        fault(1, "grows = if 1 < 2 then @if 1 < 2 then 3 else 4 else 5;");
        fault(1, "grows = if 1 < 2 then 3 else@;");
        fault(1, "grows = if 1 < 2 then 3 else 4 @else 5;");
        fault(1, "grows = if (1 @< 2) then 3 else 4;");
        fault(1, "grows = 1@");
        fine("grows = if ((1)) < (2) then (3+4*5) else if 1 < 2 then 1 else 2;");
    }

    private static void room() {
        fine("row a;".repeat(6));
        fault(2, "row a;".repeat(6) + " @row a;");
        fault(2, "row a;".repeat(6) + " @row");
        StringBuilder signs = new StringBuilder();
        StringBuilder windows = new StringBuilder();
        for (char c = 'a'; c < 'e'; c++) {
            signs.append("sign s").append(c).append(" xxx ooo xxx;");
            windows.append("window w").append(c).append(" 0 7 99;");
        }
        fine(signs.toString() + windows);
        fault(2, signs + "@sign s xxx xxx xxx;");
        fault(2, windows + "@window w 0 0 0;");
        String talks = "talk wa wb; talk wa wc; talk wa wd; talk wb wc; talk wb wd; talk wc wd;";
        fine(windows + talks);
        fault(2, windows + talks + "@talk wd wc;");
        fine("height 1;".repeat(50) + "rain 1 1;".repeat(30) + "seed 1;".repeat(30));

        String arm = "if 1 < 2 then 3 else ";
        fine("grows = " + arm.repeat(4) + "5;");
        fault(2, "grows = " + arm.repeat(4) + "@if 1 < 2 then 3 else 5;");
        fine("grows = " + arm.repeat(4) + "5; feeds = " + arm.repeat(4) + "5; grows = " + arm.repeat(4) + "6;");
        fault(1, "grows = " + arm.repeat(4) + "5 + @if 1 < 2 then 3 else 5;");

        fine("grows = ((((((1))))));");
        fault(2, "grows = ((((((@(1)))))));");
        fine("grows = ((((((1)))))) + ((((((1)))))) * ((((((1))))));");
        fine("grows = if ((((((1)))))) < ((((((1)))))) then ((((((1)))))) else ((((((1))))));");
        fault(2, "grows = 1 * (2 + (3 + (4 + (5 + (6 + (7 + @(8)))))));");
        fault(1, "grows = ((((((1@((1))))))));");

        String three = "seed 1;"; // three tokens
        fine(three.repeat(133));
        fine(three.repeat(131) + "row a;height 1;" + " ".repeat(20));
        fault(2, three.repeat(133) + "seed @1;");
        fault(1, three.repeat(133) + "seed@");
        fault(1, three.repeat(133) + "seed @;");
        fault(1, three.repeat(133) + "seed @?");
        fault(2, three.repeat(132) + "rain 1 1;" + "@seed 1;");
        fine(three.repeat(132) + "rain 1 1;");
        fine("grows = 1" + "+1".repeat(198) + ";");
        fault(2, "grows = 1" + "+1".repeat(198) + "+@1;");
        fault(1, "grows = 1" + "+1".repeat(198) + "+@;");
        fault(2, "grows =" + " 1 *".repeat(199) + " @2");
        fine("seed" + " ".repeat(1994) + "1;");
        fault(1, "seed" + " ".repeat(1995) + "1@");
    }

    private static void twiceAndName() {
        fine(LAWN + "talk w v;");
        fault(3, LAWN + "sign @s xxx xxx xxx;");
        fault(3, LAWN + "sign @w xxx xxx xxx;");
        fault(3, LAWN + "window @s 0 0 0;");
        fault(3, LAWN + "window @w 0 0 0;");
        fine("row s; window s 0 0 0; sign xxx xxx xxx xxx;");
        fault(3, LAWN + "talk w @w;");
        fault(3, LAWN + "talk w v; talk w @v;");
        fault(3, LAWN + "talk w v; talk v @w;");
        fault(4, LAWN + "talk @a w;");
        fault(4, LAWN + "talk w @a;");
        fault(4, LAWN + "talk @a a;");
        fault(4, LAWN + "talk @s w;");
        fault(4, LAWN + "talk w @s;");
        fault(4, "window w 0 0 0; talk w @v; window v 0 0 0;");
        fault(4, "talk @w v; window w 0 0 0; window v 0 0 0;");
        fault(3, LAWN + "window @w 0 0 0; talk w w;");
        fine("window abcdefgh 0 0 0; window abcdefg 0 0 0; window bcdefgh 0 0 0; talk abcdefgh abcdefg;");
    }

    private static void wrong() {
        fine("window w 0 7 99; window v 7 7 0;");
        fault(5, "window w @8 7 0;");
        fault(5, "window w 0 @8 0;");
        fault(5, "window w 3 @2 0;");
        fine("window w 3 3 0;");
        fault(5, "window w @9999 0 0;");
        fault(5, "window w 0 0 @100;");
        fine("height 99; height 0;");
        fault(5, "height @100;");
        fault(5, "height @100; height 5;");
        fine("rain 100 9; rain 0 0;");
        fault(5, "rain @101 0;");
        fault(5, "rain 0 @10;");
        fault(5, "rain @101 10;");
        fine("seed 9999;");
        fine("grows = 9999;");
    }

    private static void shape() {
        fault(6, "row abc; row @ab;");
        fault(6, "row abc; row @abcd;");
        fault(6, "row abc; seed 1; row abd; row @a; row abcd;");
        fault(6, "sign s @xx xxx xxx;");
        fault(6, "sign s xxx @xxxx xxx;");
        fault(6, "sign s xxx xox @xax;");
        fault(6, "sign s xxx xox @p;");
        fault(6, "sign s xxx ooo @row0;".replace("row0", "xoxoxoxo"));
    }

    private static void order() {
        fault(1, "row abc; row ab; height 100; row @1;");
        fault(2, "height 100;" + "row a;".repeat(6) + "@row 1;");
        fault(5, "height @100; row abc; row ab;");
        fault(6, "row abc; row @ab; height 100;");
        fault(3, LAWN + "sign @s abc xxx xxx;");
        fault(3, LAWN + "window @w 9 9 999;");
        fault(6, LAWN + "sign a @abc xxx xxx; sign a xxx xxx xxx;");
        fault(1, LAWN + "talk a b@");
        fault(2, "row a; row ab;" + "row a;".repeat(4) + "@row a;");
        fault(2, LAWN + "sign s xxx xxx xxx;".repeat(3) + "@sign s xxx xxx xxx;");
    }

    private static void nothingChanges() {
        MownLawn lawn = Check.lawn(LAWN + "row ccc; row ccc;");
        lawn.hold(1);
        lawn.cut(0, 0, 0);
        lawn.weeks(2);
        lawn.tell(0, 0, 1);
        Check.feed(lawn, "row a; row ab;");
        Check.due("count(8) ahead", lawn.count(8), 14);
        Check.due("read() with a fault", lawn.read(), 6);
        Check.due("place()", lawn.place(), 11);
        Check.due("place() again", lawn.place(), 11);
        Check.due("count(8)", lawn.count(8), 0);
        Check.due("count(0)", lawn.count(0), 3);
        Check.due("count(4)", lawn.count(4), 2);
        Check.due("count(5)", lawn.count(5), 1);
        Check.due("count(9)", lawn.count(9), 2);
        Check.due("count(10)", lawn.count(10), 1);
        Check.due("count(11)", lawn.count(11), 1);
        Check.due("cell(0, 0, 0)", lawn.cell(0, 0, 0), 4);
        Check.due("undo()", lawn.undo(), true);
        Check.due("restore(1)", lawn.restore(1), true);
        lawn.weeks(3);
        Check.feed(lawn, "row b;");
        Check.due("read()", lawn.read(), 0);
        Check.due("place() without", lawn.place(), -1);
        int[] counts = {1, 1, 0, 0, 0, 0, 0, 0, 0, 0, 0, 0, 1, 0};
        for (int what = 0; what < counts.length; what++) {
            Check.due("count(" + what + ") of the next text", lawn.count(what), counts[what]);
        }
        Check.due("undo() of the next text", lawn.undo(), false);
        Check.due("restore(1) of the next text", lawn.restore(1), false);
        Check.due("cell(0, 0, 0)", lawn.cell(0, 0, 0), 20);
        Check.due("read() of an empty tape", lawn.read(), 0);
        Check.due("count(0) of an empty text", lawn.count(0), 0);
    }
}
