/** Each promise of the document by its number, with answers worked out by hand. */
public final class PromisesTest {
    /** Orders of three lines: 0 abc, 1 acb, 2 bac, 3 bca, 4 cab, 5 cba. */
    private static final String THREE = "lines 3;copy x abc;copy y cba;copy z bac;copy w ab;copy v cb;copy u c;"
            + "desk s swap;desk m most 2;desk d drops;";
    private static final String TEN_COPIES = "copy ka ab;copy kb ab;copy kc ab;copy kd ab;copy ke ab;"
            + "copy kf ab;copy kg ab;copy kh ab;copy ki ab;copy kj ab;";

    public static void main(String[] args) {
        newObject();
        feedAndEnd();
        houseLines();
        houseTokens();
        houseValues();
        houseNames();
        houseMany();
        houseLength();
        faultAndStay();
        lineAndSize();
        add();
        order();
        between();
        made();
        fewest();
        just();
        judge();
        nearest();
        treeAndFrom();
        missing();
        ways();
        likeliestAndLikely();
        firsts();
        drawn();
        again();
        along();
        holds();
        marks();
        sense();
        mended();
        song();
        better();
        join();
        woven();
        sentenceTokens();
        sentenceMany();
        said();
        saidJoined();
        imageAndRestore();
        whatRestoreLeaves();
        count();
        tapeIsEmptyBehindEachTaking();
        exampleOfTheReadme();
        Checks.finish();
    }

    private static void due(String call, long got, long want) {
        Checks.due(call, got, want);
    }

    private static void due(String call, boolean got, boolean want) {
        Checks.due(call, got, want);
    }

    private static void houseFault(int kind, String marked) {
        Checks.houseFault(kind, marked);
    }

    private static void houseIs(int lines, String text) {
        Checks.houseIs(lines, text);
    }

    private static void sentenceFault(int kind, String marked) {
        Checks.sentenceFault(THREE, kind, marked);
    }

    /** What is said of x, y, z, w, v, u (bits 0 to 5) of THREE with some lines more. */
    private static void saidIs(int ones, String bits, String more, String text) {
        CopyOrders x = Checks.with(THREE + more);
        due("sentence() of " + text, Checks.sentence(x, text), ones);
        due("fault() of " + text, x.fault(), 0);
        int want = 0;
        for (int i = 0; i < bits.length(); i++) {
            want |= 1 << "xyzwvu".indexOf(bits.charAt(i));
        }
        due("said() of " + text, x.said(), want);
    }

    private static void lineThrows(CopyOrders x, int c, int i) {
        Checks.lineThrows(x, c, i);
    }

    private static void alongThrows(CopyOrders x, int o, int k, int what) {
        Checks.alongThrows(x, o, k, what);
    }

    // Promise 1
    private static void newObject() {
        CopyOrders x = new CopyOrders();
        int[] counts = {4, 0, 0, 24, 0, 0, 0};
        for (int what = 0; what < counts.length; what++) {
            due("new: count(" + what + ")", x.count(what), counts[what]);
        }
        due("new: fault()", x.fault(), 0);
        due("new: likely()", x.likely(), 0);
        due("new: said()", x.said(), -1);
        due("new: from(0)", x.from(0), -1);
        due("new: missing(0)", x.missing(0), -1);
        due("new: restore(0)", x.restore(0), false);
        due("new: restore(1)", x.restore(1), false);
        due("new: ways(0, 1, 1)", x.ways(0, 1, 1), 1);
        due("new: sense(-1)", x.sense(-1), 24);
        due("new: song(23)", x.song(23), 0);
        due("NONE", CopyOrders.NONE, -1);
    }

    // Promises 2 and 3
    private static void feedAndEnd() {
        CopyOrders x = new CopyOrders();
        for (int i = 1; i <= 37; i++) {
            due("feed " + i, x.feed(0x3b3b3b3b, 0, 0, 0, 0), 20 * i);
        }
        due("feed beyond", x.feed(0, 0, 0, 0, 0), -1);
        due("count(6) full", x.count(6), 740);
        due("end(741)", x.end(741), false);
        due("end(-1)", x.end(-1), false);
        due("count(6) then", x.count(6), 740);
        due("end(740)", x.end(740), true);
        due("end(721)", x.end(721), true);
        due("feed at 721", x.feed(0, 0, 0, 0, 0), -1);
        due("count(6) at 721", x.count(6), 721);
        due("end(720)", x.end(720), true);
        due("feed at 720", x.feed(0, 0, 0, 0, 0), 740);
        due("end(0)", x.end(0), true);
        due("end(1) of none", x.end(1), false);
        due("count(6) of none", x.count(6), 0);
        x.feed(0x00010203, 0, 0, 0, 0);
        x.end(1);
        x.feed(0x01020300, 0, 0, 0, 0);
        x.end(4);
        due("add() of 0 1 2 3", x.add(), 0);
        for (int i = 0; i < 4; i++) {
            due("line(0, " + i + ")", x.line(0, i), i);
        }
        x.feed(0x03000000, 0x02000000, 0x01000000, 0, -1);
        x.end(1);
        due("add() of 3", x.add(), 1);
        due("line(1, 0)", x.line(1, 0), 3);
        x = Checks.with("lines 2;");
        // 'copy'' x a'';   ' and two more numbers of blanks
        x.feed(0x636f7079, 0x20782061, 0x3b202020, 0x0a0a0a0a, 0x20202020);
        due("house() by numbers", x.house(), 1);
        due("size(0) by numbers", x.size(0), 1);
    }

    // Promise 4
    private static void houseLines() {
        houseIs(0, "");
        houseIs(0, " \n ");
        houseIs(1, "lines 2;");
        houseIs(1, "lines 07;");
        houseIs(3, "desk d swap;desk e drops;lines 3;");
        houseIs(4, "copy x abcd;desk d most 9;sense a d;rhyme d a 99;");
        houseIs(2, "\ncopy x\nabcd  ;\n\nlikely 3 0\n;\n");
        houseIs(2, "sense a b;sense b a;");
        houseIs(2, "sense a b;rhyme a b 1;");
        houseIs(2, "rhyme a b 01;rhyme b a 1;");
        houseIs(1, "likely 1 09;");
        houseIs(1, "copy coppy d;");
        houseIs(1, "copy abcdefg dcba;");
        houseIs(2, "lines 7;copy x gfedcba;");
        CopyOrders x = Checks.with("desk d swap;lines 3;copy x cab;likely 2 7;");
        due("count(0) of lines 3", x.count(0), 3);
        due("lines behind a desk: line(0, 0)", x.line(0, 0), 2);
        due("likely 2 7: ways", x.ways(0, 1, 1), 7);
        due("house() with the SENTENCE gone", Checks.sentence(x, "whole"), 1);
        due("said()", x.said(), 1);
        due("house() again", Checks.house(x, "copy x abc;"), 1);
        due("said() in the new HOUSE", x.said(), -1);
        due("house() once more", Checks.house(x, "copy x ba;copy y ab;copy z abcd;"), 3);
        due("said() where a SENTENCE was", x.said(), -1);
        due("between(0, 1, 0) where longer copies were", x.between(0, 1, 0), 1);
        due("between(0, 2, 0) where longer copies were", x.between(0, 2, 0), 1);
        due("house() without lines", Checks.house(x, ""), 0);
        due("count(0) without lines", x.count(0), 4);
        due("ways without likely", x.ways(0, 1, 1), 1);
    }

    private static void houseTokens() {
        houseFault(1, "^;");
        houseFault(1, "^copies");
        houseFault(1, "^swap");
        houseFault(1, "^x");
        houseFault(1, "^4");
        houseFault(1, "^Lines 3;");
        houseFault(1, "^\t");
        houseFault(1, "^\u00e9");
        houseFault(1, "^.");
        houseFault(1, "lines^");
        houseFault(1, "lines  ^");
        houseFault(1, "lines ^;");
        houseFault(1, "lines ^three;");
        houseFault(1, "lines ^003;");
        houseFault(1, "lines ^3copy x abc;");
        houseFault(1, "lines 3^");
        houseFault(1, "lines 3 ^copy x abc;");
        houseFault(1, "lines 3;^;");
        houseFault(1, "copy^");
        houseFault(1, "copy ^5 ab;");
        houseFault(1, "copy x^");
        houseFault(1, "copy x^;");
        houseFault(1, "copy x ^12;");
        houseFault(1, "copy x ^ab3;");
        houseFault(1, "copy x ab ^cd;");
        houseFault(1, "copy ^abcdefgh ab;");
        houseFault(1, "^copyx");
        houseFault(1, "desk d ^copy;");
        houseFault(1, "desk d ^run;");
        houseFault(1, "desk d most^;");
        houseFault(1, "desk d most ^x;");
        houseFault(1, "desk d swap ^1;");
        houseFault(1, "likely ^a 1;");
        houseFault(1, "likely 1^;");
        houseFault(1, "sense ^1 b;");
        houseFault(1, "sense a^;");
        houseFault(1, "sense a b ^3;");
        houseFault(1, "rhyme a b^;");
        houseFault(1, "rhyme a b ^c;");
        houseFault(1, "rhyme a b ^100;");
    }

    private static void houseValues() {
        houseFault(2, "lines ^8;");
        houseFault(2, "lines ^1;");
        houseFault(2, "lines ^00;");
        houseFault(2, "copy x ^abe;");
        houseFault(2, "copy x ^aa;");
        houseFault(2, "copy x ^copy;");
        houseFault(2, "lines 2;copy x ^abc;");
        houseFault(2, "lines 7;copy x ^h;");
        houseFault(2, "desk d most ^0;");
        houseFault(2, "desk d most ^10;");
        houseFault(2, "likely ^0 1;");
        houseFault(2, "likely ^4 1;");
        houseFault(2, "lines 2;likely ^2 1;");
        houseFault(2, "likely 1 ^10;");
        houseFault(2, "sense ^e a;");
        houseFault(2, "sense a ^e;");
        houseFault(2, "sense ^ab c;");
        houseFault(2, "sense a ^copy;");
        houseFault(2, "rhyme ^e a 1;");
        houseFault(2, "rhyme a ^bb 1;");
        houseFault(2, "rhyme a b ^0;");
        houseFault(2, "sense ^e e;");
    }

    private static void houseNames() {
        houseFault(3, "copy x ab;copy ^x ab;");
        houseFault(3, "copy x ab;desk ^x swap;");
        houseFault(3, "desk x swap;desk ^x swap;");
        houseFault(3, "desk x swap;copy ^x ab;");
        houseFault(3, "lines 3;^lines 3;");
        houseFault(3, "copy x ab;^lines 3;");
        houseFault(3, "likely 1 1;^lines 3;");
        houseFault(3, "sense a b;^lines 3;");
        houseFault(3, "rhyme a b 1;^lines");
        houseFault(3, "likely 1 1;likely ^01 2;");
        houseFault(3, "sense a ^a;");
        houseFault(3, "rhyme b ^b 1;");
        houseFault(3, "sense a b;sense a ^b;");
        houseFault(3, "rhyme a b 1;rhyme a ^b 2;");
        houseIs(2, "likely 1 1;likely 2 1;");
        String[] words = {"lines", "copy", "desk", "swap", "most", "drops", "likely", "sense", "rhyme", "or",
            "and", "not", "whole", "holds", "has", "ahead", "far", "steps", "song", "size"};
        for (String word : words) {
            houseFault(1, "copy ^" + word + " ab;");
            houseFault(1, "desk ^" + word + " swap;");
        }
    }

    private static void houseMany() {
        houseIs(10, TEN_COPIES);
        houseFault(4, TEN_COPIES + "^copy k ab;");
        houseFault(4, TEN_COPIES + "^copy copy");
        String sixDesks = "desk a swap;desk b swap;desk c swap;desk d swap;desk e swap;desk f most 3;";
        houseIs(6, sixDesks);
        houseFault(4, sixDesks + "^desk");
        houseIs(17, "lines 5;" + TEN_COPIES + sixDesks);
        StringBuilder senses = new StringBuilder("lines 4;");
        StringBuilder rhymes = new StringBuilder("lines 4;");
        for (String pair : "a b,a c,a d,b a,b c,b d,c a,c b,c d,d a,d b,d c".split(",")) {
            senses.append("sense ").append(pair).append(';');
            rhymes.append("rhyme ").append(pair).append(" 7;");
        }
        houseIs(13, senses.toString());
        houseIs(13, rhymes.toString());
        houseFault(4, senses + "^sense a b;");
        houseFault(4, rhymes + "^rhyme e");
        houseIs(25, senses + rhymes.substring(8));
    }

    private static void houseLength() {
        String copy = "copy x ab;";
        houseIs(1, copy + " ".repeat(690));
        houseFault(1, copy + " ".repeat(690) + "^ ");
        houseFault(1, copy + " ".repeat(690) + "^copy y ab;");
        houseFault(1, copy + " ".repeat(690) + "^A");
        houseFault(1, " ".repeat(680) + "^A" + " ".repeat(40));
        houseFault(1, " ".repeat(699) + "^A;");
        houseFault(2, " ".repeat(690) + "copy x ^abe;");
        houseIs(1, " ".repeat(690) + copy);
        houseFault(1, " ".repeat(691) + "copy x ab^;");
        houseFault(1, " ".repeat(692) + "copy x a^b;");
        houseFault(2, " ".repeat(692) + "copy x ^aba;");
        houseFault(1, " ".repeat(692) + "copy x ^a1;");
        houseFault(1, " ".repeat(693) + "copy x ^ab;");
        houseFault(1, " ".repeat(697) + "cop^y x ab;");
        houseFault(1, " ".repeat(697) + "^copi x ab;");
    }

    // Promise 5
    private static void faultAndStay() {
        CopyOrders x = Checks.with("lines 3;copy x cab;likely 1 5;sense a b;rhyme a b 3;desk d most 3;");
        due("sentence()", Checks.sentence(x, "has a"), 1);
        due("house() with a FAULT", Checks.house(x, "lines 2;copy y ab;desk e drops;sense b b;"), -40);
        due("fault() of the HOUSE", x.fault(), 3);
        due("it stays: count(0)", x.count(0), 3);
        due("it stays: count(1)", x.count(1), 1);
        due("it stays: count(2)", x.count(2), 1);
        due("it stays: count(4)", x.count(4), 1);
        due("it stays: count(5)", x.count(5), 1);
        due("it stays: line(0, 0)", x.line(0, 0), 2);
        due("it stays: made(0, 0)", x.made(0, 0), 1);
        due("it stays: ways(0, 2, 1)", x.ways(0, 2, 1), 5);
        due("it stays: sense(-1)", x.sense(-1), 3);
        due("it stays: song(0)", x.song(0), 3);
        due("the SENTENCE stays: said()", x.said(), 1);
        due("sentence() with a FAULT", Checks.sentence(x, "has d"), -5);
        due("fault() of the SENTENCE", x.fault(), 2);
        due("the SENTENCE stays: said()", x.said(), 1);
        due("tape behind a FAULT", x.count(6), 0);
        due("fault() stays", x.fault(), 2);
        due("sentence() without", Checks.sentence(x, "not has a"), 2);
        due("fault() without", x.fault(), 0);
        due("said() of the later one", x.said(), 0);
    }

    // Promises 6 and 7
    private static void lineAndSize() {
        CopyOrders x = Checks.with(THREE);
        int[][] lines = {{0, 1, 2}, {2, 1, 0}, {1, 0, 2}, {0, 1}, {2, 1}, {2}};
        for (int c = 0; c < lines.length; c++) {
            due("size(" + c + ")", x.size(c), lines[c].length);
            for (int i = 0; i < lines[c].length; i++) {
                due("line(" + c + ", " + i + ")", x.line(c, i), lines[c][i]);
            }
            lineThrows(x, c, lines[c].length);
            lineThrows(x, c, -1);
        }
        lineThrows(x, 6, 0);
        lineThrows(x, -1, 0);
        lineThrows(x, 0, 7);
        lineThrows(x, Integer.MIN_VALUE, Integer.MAX_VALUE);
        due("size(6)", x.size(6), -1);
        due("size(-1)", x.size(-1), -1);
        lineThrows(new CopyOrders(), 0, 0);
    }

    // Promise 8
    private static void add() {
        CopyOrders x = Checks.with("lines 3;copy x abc;");
        int[][] bad = {{}, {3}, {0, 0}, {0, 1, 2, 0}, {0, 1, 2, 3}, {255}, {0, 'b'}, {1, 2, 1}};
        for (int[] bytes : bad) {
            Checks.lay(x, bytes);
            due("add() not as told", x.add(), -1);
            due("count(6) behind it", x.count(6), 0);
            due("count(1) behind it", x.count(1), 1);
        }
        Checks.lay(x, 2, 0, 1);
        due("add() of c a b", x.add(), 1);
        due("line(1, 0)", x.line(1, 0), 2);
        due("line(1, 2)", x.line(1, 2), 1);
        due("between(0, 1, 0)", x.between(0, 1, 0), 2);
        for (int i = 2; i < 10; i++) {
            Checks.lay(x, i % 3);
            due("add() " + i, x.add(), i);
            due("size " + i, x.size(i), 1);
        }
        Checks.lay(x, 0);
        due("an eleventh add()", x.add(), -1);
        due("count(1)", x.count(1), 10);
        due("count(6)", x.count(6), 0);
        x = Checks.with(TEN_COPIES);
        Checks.lay(x, 0);
        due("add() to ten told", x.add(), -1);
        Checks.house(x, "");
        Checks.house(x, "");
        Checks.lay(x, 0);
        due("add() where a COPY with a NAME was", x.add(), 0);
        due("it has no NAME", Checks.sentence(x, "far ka<9"), -5);
        due("fault()", x.fault(), 3);
        due("it has no NAME at all", Checks.sentence(x, "far a<9"), -5);
        due("fault()", x.fault(), 3);
    }

    // Promise 9
    private static void order() {
        CopyOrders x = Checks.with(THREE);
        String[] orders = {"abc", "acb", "bac", "bca", "cab", "cba"};
        for (int o = 0; o < 6; o++) {
            for (int i = 0; i < 3; i++) {
                due("order(" + o + ", " + i + ")", x.order(o, i), orders[o].charAt(i) - 'a');
            }
            due("order(" + o + ", 3)", x.order(o, 3), -1);
            due("order(" + o + ", -1)", x.order(o, -1), -1);
        }
        due("order(6, 0)", x.order(6, 0), -1);
        due("order(-1, 0)", x.order(-1, 0), -1);
        x = Checks.with("lines 7;");
        due("order(5039, 0)", x.order(5039, 0), 6);
        due("order(5039, 6)", x.order(5039, 6), 0);
        due("order(720, 0)", x.order(720, 0), 1);
        due("order(720, 1)", x.order(720, 1), 0);
        due("order(5040, 0)", x.order(5040, 0), -1);
        x = Checks.with("lines 2;");
        due("order(1, 0)", x.order(1, 0), 1);
        due("order(2, 0)", x.order(2, 0), -1);
    }

    // Promise 10
    private static void between() {
        CopyOrders x = Checks.with(THREE);
        // x abc, y cba, z bac, w ab, v cb, u c
        int[][] cases = {{0, 0, 0, 0}, {0, 1, 3, 0}, {0, 2, 1, 0}, {1, 2, 2, 0}, {0, 3, 0, 1}, {1, 3, 1, 1},
            {3, 4, 0, 2}, {0, 4, 1, 1}, {3, 5, 0, 3}, {5, 0, 0, 2}, {4, 5, 0, 1}, {2, 4, 1, 1}};
        for (int[] c : cases) {
            String call = "between(" + c[0] + ", " + c[1] + ")";
            due(call + " steps", x.between(c[0], c[1], 0), c[2]);
            due(call + " fallen", x.between(c[0], c[1], 1), c[3]);
            due(call + " far", x.between(c[0], c[1], 2), c[2] + 3 * c[3]);
            due(call + " back", x.between(c[1], c[0], 2), c[2] + 3 * c[3]);
        }
        due("between what 3", x.between(0, 1, 3), -1);
        due("between what -1", x.between(0, 1, -1), -1);
        due("between(6, 0, 0)", x.between(6, 0, 0), -1);
        due("between(0, 6, 0)", x.between(0, 6, 0), -1);
        due("between(-1, 0, 0)", x.between(-1, 0, 0), -1);
        x = Checks.with("lines 7;copy x ba;copy y ab;copy z gfedcba;copy w abcdefg;");
        due("lines that both have not are not FALLEN", x.between(0, 1, 2), 1);
        due("all pairs", x.between(2, 3, 0), 21);
        due("five FALLEN", x.between(1, 3, 2), 15);
    }

    // Promise 11
    private static void made() {
        CopyOrders x = Checks.with(THREE);
        // swap 1, most 2: 2, drops 4
        int[][] cases = {{0, 0, 2}, {0, 1, 0}, {0, 2, 3}, {1, 2, 2}, {2, 1, 2}, {0, 3, 4}, {2, 3, 0}, {3, 0, 0},
            {1, 4, 4}, {0, 4, 0}, {4, 5, 4}, {3, 5, 0}, {0, 5, 0}, {4, 4, 2}, {5, 5, 2}};
        for (int[] c : cases) {
            due("made(" + c[0] + ", " + c[1] + ")", x.made(c[0], c[1]), c[2]);
        }
        due("made(6, 0)", x.made(6, 0), -1);
        due("made(0, 6)", x.made(0, 6), -1);
        due("made(0, -1)", x.made(0, -1), -1);
        x = Checks.with("copy x abcd;copy y badc;copy z ab;copy w ba;");
        due("made() without DESKS", x.made(0, 1), 0);
        x = Checks.with("copy x abcd;copy y badc;copy z ab;copy w ba;desk a most 1;desk b swap;");
        due("two STEPS by most 1 or swap", x.made(0, 1), 0);
        due("copies that are not WHOLE", x.made(2, 3), 3);
    }

    // Promise 12
    private static void fewest() {
        CopyOrders x = Checks.with("lines 4;copy x abcd;copy y dcba;copy z bacd;copy w abc;"
                + "desk s swap;desk m most 4;desk n most 6;desk d drops;");
        due("swap of 6", x.fewest(0, 1, 0), 6);
        due("most 4 of 6", x.fewest(0, 1, 1), 2);
        due("most 6 of 6", x.fewest(0, 1, 2), 1);
        due("drops of 6", x.fewest(0, 1, 3), -1);
        due("most 4 of 1", x.fewest(0, 2, 1), 1);
        due("most 4 of 5", x.fewest(2, 1, 1), 2);
        for (int d = 0; d < 4; d++) {
            due("none between alike ones", x.fewest(1, 1, d), 0);
            due("not WHOLE", x.fewest(0, 3, d), -1);
            due("not WHOLE", x.fewest(3, 0, d), -1);
            due("not WHOLE, alike", x.fewest(3, 3, d), -1);
        }
        due("fewest(0, 1, 4)", x.fewest(0, 1, 4), -1);
        due("fewest(0, 1, -1)", x.fewest(0, 1, -1), -1);
        due("fewest(4, 1, 0)", x.fewest(4, 1, 0), -1);
        due("fewest(0, -1, 0)", x.fewest(0, -1, 0), -1);
    }

    // Promise 13
    private static void just() {
        CopyOrders x = Checks.with("lines 4;copy x abcd;copy y dcba;copy z bacd;copy w abc;"
                + "desk s swap;desk m most 4;desk d drops;");
        int[][] swaps = {{5, 0}, {6, 1}, {7, 0}, {8, 1}, {4, 0}, {0, 0}, {Integer.MAX_VALUE - 1, 1},
            {Integer.MAX_VALUE, 0}};
        for (int[] s : swaps) {
            due("swap of 6 by " + s[0], x.just(0, 1, 0, s[0]), s[1]);
        }
        due("most 4 of 6 by 1", x.just(0, 1, 1, 1), 0);
        due("most 4 of 6 by 2", x.just(0, 1, 1, 2), 1);
        due("most 4 of 6 by 3", x.just(0, 1, 1, 3), 1);
        due("most 4 of 6 by very many", x.just(0, 1, 1, Integer.MAX_VALUE), 1);
        due("most of none by 0", x.just(0, 0, 1, 0), 1);
        due("swap of none by 0", x.just(0, 0, 0, 0), 1);
        due("swap of none by 1", x.just(0, 0, 0, 1), 0);
        due("drops, alike, by 0", x.just(0, 0, 2, 0), 1);
        due("drops, alike, by 1", x.just(0, 0, 2, 1), 0);
        due("drops, unlike, by 0", x.just(0, 1, 2, 0), 0);
        due("k -1", x.just(0, 0, 0, -1), -1);
        due("k least", x.just(0, 0, 0, Integer.MIN_VALUE), -1);
        due("not WHOLE", x.just(3, 0, 0, 1), -1);
        due("not WHOLE", x.just(0, 3, 2, 1), -1);
        due("no such DESK", x.just(0, 0, 3, 0), -1);
        due("no such COPY", x.just(0, 4, 0, 0), -1);
    }

    // Promise 14
    private static void judge() {
        CopyOrders x = Checks.with(THREE);
        int[][] rows = {{0, 2}, {0, 2, 0}, {0, 2, 1}, {0, 1}, {2, 0, 2, 0, 0, 1}};
        int[] swaps = {0, 0, 2, 1, 4};
        int[] mosts = {0, 0, 0, 1, 5};
        int[] drops = {1, 1, 1, 1, 1};
        for (int i = 0; i < rows.length; i++) {
            Checks.lay(x, rows[i]);
            due("judge(0) of row " + i, x.judge(0), swaps[i]);
            Checks.lay(x, rows[i]);
            due("judge(1) of row " + i, x.judge(1), mosts[i]);
            Checks.lay(x, rows[i]);
            due("judge(2) of row " + i, x.judge(2), drops[i]);
        }
        Checks.lay(x, 1, 4, 5);
        due("judge(2) of cba cb c", x.judge(2), 0);
        int[][] bad = {{}, {0}, {0, 6}, {6, 0}, {0, 1, 255}};
        for (int[] row : bad) {
            Checks.lay(x, row);
            due("judge() not as told", x.judge(0), -1);
            due("count(6) behind it", x.count(6), 0);
        }
        Checks.lay(x, 0, 2);
        due("judge(3)", x.judge(3), -1);
        Checks.lay(x, 0, 2);
        due("judge(-1)", x.judge(-1), -1);
        int[] longest = new int[740];
        for (int i = 0; i < 740; i++) {
            longest[i] = i % 2 * 2;
        }
        Checks.lay(x, longest);
        due("judge() of 740", x.judge(0), 0);
        longest[739] = 0;
        Checks.lay(x, longest);
        due("judge() of 740, the last one wrong", x.judge(0), 739);
    }

    // Promise 15
    private static void nearest() {
        CopyOrders x = Checks.with("lines 3;copy x abc;copy y cba;");
        // each order lies 3 from both together; the worst is 2 at least
        due("nearest(0, -1)", x.nearest(0, -1), 6);
        due("nearest(0, -2)", x.nearest(0, -2), 3);
        for (int k = 0; k < 6; k++) {
            due("nearest(0, " + k + ")", x.nearest(0, k), k);
        }
        due("nearest(0, 6)", x.nearest(0, 6), -1);
        due("nearest(1, -1)", x.nearest(1, -1), 4);
        due("nearest(1, -2)", x.nearest(1, -2), 2);
        due("nearest(1, 0)", x.nearest(1, 0), 1);
        due("nearest(1, 3)", x.nearest(1, 3), 4);
        due("nearest(1, 4)", x.nearest(1, 4), -1);
        due("nearest(2, -1)", x.nearest(2, -1), -1);
        due("nearest(-1, -1)", x.nearest(-1, -1), -1);
        due("nearest(0, -3)", x.nearest(0, -3), -1);
        x = Checks.with("lines 3;copy x ba;copy y c;");
        // b ahead of a: bac, bca, cba, FAR 3 and 6
        due("fallen: nearest(0, -1)", x.nearest(0, -1), 3);
        due("fallen: nearest(0, -2)", x.nearest(0, -2), 9);
        due("fallen: nearest(0, 2)", x.nearest(0, 2), 5);
        due("fallen: nearest(1, -2)", x.nearest(1, -2), 6);
        due("fallen: nearest(1, -1)", x.nearest(1, -1), 6);
        x = new CopyOrders();
        due("no COPIES: nearest(0, -1)", x.nearest(0, -1), -1);
        due("no COPIES: nearest(0, -2)", x.nearest(0, -2), -1);
        due("no COPIES: nearest(1, 0)", x.nearest(1, 0), -1);
    }

    // Promises 16 and 17
    private static void treeAndFrom() {
        CopyOrders x = Checks.with(THREE);
        Checks.lay(x, 0, 1, 2);
        due("tree() of x y z", x.tree(), 3);
        due("from(0), the root", x.from(0), -1);
        due("from(1)", x.from(1), 2);
        due("from(2)", x.from(2), 0);
        due("from(3)", x.from(3), -1);
        due("from(-1)", x.from(-1), -1);
        int[][] bad = {{}, {0, 0}, {6}, {0, 1, 2, 6}, {0, 1, 2, 3, 4, 5, 0}};
        for (int[] row : bad) {
            Checks.lay(x, row);
            due("tree() not as told", x.tree(), -1);
            due("from(1) of the latest that was", x.from(1), 2);
        }
        Checks.lay(x, 4);
        due("tree() of one", x.tree(), 0);
        due("from(0) of one", x.from(0), -1);
        due("from(1) of one", x.from(1), -1);
        // b abc, c acb, d bac: both 1 from the root and 2 from one another; e cba 2 from c and d
        x = Checks.with("lines 3;copy b abc;copy c acb;copy d bac;copy e cba;");
        Checks.lay(x, 0, 3, 2, 1);
        due("tree() of alike ones", x.tree(), 4);
        due("the first told is joined first", x.from(1), 2);
        due("from(2)", x.from(2), 0);
        due("from(3)", x.from(3), 0);
        Checks.lay(x, 0, 3, 1, 2);
        due("tree() of alike ones, told otherwise", x.tree(), 4);
        due("the other one is joined first", x.from(1), 1);
        Checks.lay(x, 3, 0, 1, 2);
        due("tree() from e", x.tree(), 4);
        due("e to c", x.from(2), 3);
        due("c to b", x.from(1), 1);
        due("b to d", x.from(3), 0);
        x = Checks.with(TEN_COPIES);
        Checks.lay(x, 9, 8, 7, 6, 5, 4, 3, 2, 1);
        due("tree() of nine", x.tree(), 0);
        due("from(8): the first joined", x.from(8), 9);
        Checks.lay(x, 0, 1, 2, 3, 4, 5, 6, 7, 8, 9);
        due("tree() of ten", x.tree(), -1);
        Checks.house(x, "copy x ab;");
        due("from(8) in a new HOUSE", x.from(8), 9);
    }

    // Promise 18
    private static void missing() {
        CopyOrders x = Checks.with("lines 3;copy x acb;copy y bac;copy z cba;");
        due("missing() ahead of a tree()", x.missing(0), -1);
        Checks.lay(x, 0, 1, 2);
        // each is 2 from each other one; with abc the sum is 1 and 1 and 2
        due("tree() of acb bac cba", x.tree(), 4);
        due("missing(0)", x.missing(0), -1);
        due("missing(1)", x.missing(1), -1);
        x = Checks.with("lines 4;copy x bacd;copy y acbd;copy z abdc;");
        Checks.lay(x, 0, 1, 2);
        // each is 2 from each other one; abcd is 1 from all of them
        due("tree() of three swaps", x.tree(), 4);
        due("missing(0) of three swaps", x.missing(0), 0);
        due("missing(1) of three swaps", x.missing(1), 3);
        due("missing(2)", x.missing(2), -1);
        due("missing(-1)", x.missing(-1), -1);
        due("from(1) is as told", x.from(1), 0);
        Checks.lay(x, 0, 1);
        due("judge() takes these", x.judge(0), -1);
        due("missing(1) still", x.missing(1), 3);
        Checks.house(x, "lines 4;copy x acbd;copy y abdc;copy z cbda;");
        // the order on each two lines of which most of them agree is x itself
        due("missing(0) as they are now", x.missing(0), -1);
        Checks.house(x, "lines 4;copy x cdba;copy y dcab;");
        due("missing(0) of one there no more", x.missing(0), -1);
        due("missing(1) of one there no more", x.missing(1), -1);
        due("from(1) of one there no more", x.from(1), 0);
        Checks.lay(x, 2, 3, 0, 1);
        due("add()", x.add(), 2);
        due("missing(0) when there is a third again", x.missing(0), -1);
        x = Checks.with("lines 2;copy x ab;");
        Checks.lay(x, 0);
        due("tree() of one", x.tree(), 0);
        due("missing(0) of one", x.missing(0), -1);
        // with abcd the sum is 6 and 6, as without
        x = Checks.with("lines 4;copy x ab;copy y cd;copy z abcd;");
        Checks.lay(x, 0, 1);
        due("tree() of ab and cd", x.tree(), 12);
        due("missing(0) of ab and cd", x.missing(0), -1);
    }

    // Promise 19
    private static void ways() {
        CopyOrders x = Checks.with("lines 3;likely 1 3;likely 2 2;");
        due("k 0 to itself", x.ways(4, 4, 0), 1);
        due("k 0 to another", x.ways(4, 5, 0), 0);
        due("place 1", x.ways(0, 2, 1), 3);
        due("place 2", x.ways(0, 1, 1), 2);
        due("not at once", x.ways(0, 3, 1), 0);
        due("twice the same", x.ways(0, 0, 2), 13);
        // abc, bac, bca: place 1, then place 2
        due("place 1 and 2", x.ways(0, 3, 2), 6);
        due("to abc from cba", x.ways(5, 0, 3), 30);
        due("place 1 three times or 1 2 2, 2 2 1", x.ways(0, 2, 3), 27 + 12 + 12);
        due("ways(6, 0, 0)", x.ways(6, 0, 0), -1);
        due("ways(0, 6, 0)", x.ways(0, 6, 0), -1);
        due("ways(-1, 0, 0)", x.ways(-1, 0, 0), -1);
        due("ways(0, -1, 0)", x.ways(0, -1, 0), -1);
        due("ways k 11", x.ways(0, 0, 11), -1);
        due("ways k -1", x.ways(0, 0, -1), -1);
        x = Checks.with("lines 2;likely 1 9;");
        due("9 to the tenth", x.ways(0, 0, 10), 3486784401L);
        due("9 to the ninth", x.ways(0, 1, 9), 387420489L);
        x = Checks.with("lines 2;likely 1 0;");
        due("no W", x.ways(0, 1, 1), 0);
        due("no W, no copying", x.ways(1, 1, 0), 1);
    }

    // Promises 20 and 21
    private static void likeliestAndLikely() {
        CopyOrders x = Checks.with("lines 3;copy x abc;copy y cba;copy z bac;copy w ab;likely 1 3;likely 2 2;");
        due("likely() ahead", x.likely(), 0);
        // bac: 3 to abc, 2 * 3 to cba; acb: 2 and 3 * 2; the others none
        due("likeliest(0, 1, 1, 2)", x.likeliest(0, 1, 1, 2), 2);
        due("likely()", x.likely(), 18);
        due("none", x.likeliest(0, 0, 1, 0), -1);
        due("likely() stays", x.likely(), 18);
        due("not WHOLE", x.likeliest(0, 0, 3, 0), -2);
        due("not WHOLE", x.likeliest(3, 0, 0, 0), -2);
        due("likely() stays", x.likely(), 18);
        due("itself", x.likeliest(1, 0, 1, 0), 5);
        due("likely() 1", x.likely(), 1);
        due("k 5", x.likeliest(0, 5, 0, 5) >= 0, true);
        int[][] bad = {{0, 6, 0, 0}, {0, 0, 0, 6}, {0, -1, 0, 0}, {0, 0, 0, -1}, {4, 0, 0, 0}, {0, 0, -1, 0}};
        for (int[] b : bad) {
            due("no such ones", x.likeliest(b[0], b[1], b[2], b[3]), -2);
        }
        x = Checks.with("lines 3;copy x abc;copy y cba;");
        // acb and bac are alike
        due("the first of like ones", x.likeliest(0, 1, 0, 1), 1);
        due("likely() of it", x.likely(), 1);
        Checks.house(x, "");
        due("likely() in a new HOUSE", x.likely(), 1);
    }

    // Promise 22
    private static void firsts() {
        CopyOrders x = new CopyOrders();
        // how many orders of four lines have so many STEPS: 1 3 5 6 5 3 1
        int[] wants = {1, 3, 6, 9, 11, 12, 12, 12, 12, 12, 12};
        for (int k = 0; k <= 10; k++) {
            due("firsts(5, " + k + ")", x.firsts(5, k), wants[k]);
        }
        due("firsts(0, 11)", x.firsts(0, 11), -1);
        due("firsts(0, -1)", x.firsts(0, -1), -1);
        due("firsts(24, 0)", x.firsts(24, 0), -1);
        due("firsts(-1, 0)", x.firsts(-1, 0), -1);
        x = Checks.with("likely 2 0;");
        due("without place 2, k 1", x.firsts(0, 1), 2);
        due("without place 2, k 2", x.firsts(0, 2), 2);
        x = Checks.with("lines 2;likely 1 0;");
        due("no W, k 0", x.firsts(0, 0), 1);
        due("no W, k 1", x.firsts(0, 1), 0);
    }

    // Promise 23
    private static void drawn() {
        CopyOrders x = new CopyOrders();
        // seed 0: 12345, its draw 48; then 3554416254, its draw 13884438
        due("k 0", x.drawn(7, 0, 99), 7);
        due("k 100", x.drawn(7, 100, 99) >= 0, true);
        due("draw 48 of 3 is 0: place 1", x.drawn(0, 1, 0), 6);
        due("draw 13884438 of 3 is 0: place 1", x.drawn(0, 2, 0), 0);
        x = Checks.with("likely 1 0;likely 2 1;likely 3 0;");
        due("all W at place 2", x.drawn(0, 1, 5), 2);
        due("all W at place 2, 99 times", x.drawn(0, 99, -5), 2);
        due("all W at place 2, 100 times", x.drawn(0, 100, 5), 0);
        x = Checks.with("likely 1 9;likely 2 9;likely 3 9;");
        // 48 % 27 is 21, 13884438 % 27 is 12
        due("draw 21 of 27: place 3", x.drawn(0, 1, 0), 1);
        due("draw 12 of 27: place 2", x.drawn(0, 2, 0), 4);
        x = Checks.with("likely 1 4;likely 2 0;likely 3 4;");
        due("draw 48 of 8 is 0: place 1", x.drawn(0, 1, 0), 6);
        due("draw 6 of 8: place 3", x.drawn(0, 2, 0), 7);
        due("k 101", x.drawn(0, 101, 0), -1);
        due("k -1", x.drawn(0, -1, 0), -1);
        due("drawn(24, 0, 0)", x.drawn(24, 0, 0), -1);
        due("drawn(-1, 0, 0)", x.drawn(-1, 0, 0), -1);
        x = Checks.with("lines 3;likely 1 0;likely 2 0;");
        due("all W 0", x.drawn(0, 1, 0), -1);
        due("all W 0, k 0", x.drawn(0, 0, 0), -1);
    }

    // Promise 24
    private static void again() {
        CopyOrders x = Checks.with("lines 2;likely 1 7;");
        for (int k = 0; k <= 10; k++) {
            due("two lines: again(" + k + ")", x.again(k), k % 2 == 0 ? 1 : 0);
        }
        // three lines: rows about a ring of six orders
        x = Checks.with("lines 3;likely 1 0;likely 2 9;");
        int[] wants = {1, 0, 2, 0, 6, 0, 22, 0, 86, 0, 342};
        for (int k = 0; k <= 10; k++) {
            due("three lines: again(" + k + ")", x.again(k), wants[k]);
        }
        due("again(11)", x.again(11), -1);
        due("again(-1)", x.again(-1), -1);
    }

    // Promise 25
    private static void along() {
        CopyOrders x = Checks.with("lines 3;");
        due("k 0 above", x.along(3, 0, 0), 0);
        due("k 0 below", x.along(3, 0, 1), 1);
        due("k 1 above", x.along(3, 1, 0), 1);
        due("k 1 below", x.along(3, 1, 1), 1);
        // 2 rows come back, 2 lie 2 STEPS away
        due("k 2 above", x.along(0, 2, 0), 1);
        due("k 2 below", x.along(0, 2, 1), 1);
        // 6 rows lie 1 STEP away, 2 rows 3 STEPS: 12 by 8
        due("k 3 above", x.along(5, 3, 0), 3);
        due("k 3 below", x.along(5, 3, 1), 2);
        alongThrows(x, 6, 0, 0);
        alongThrows(x, -1, 0, 0);
        alongThrows(x, 0, 11, 0);
        alongThrows(x, 0, -1, 0);
        alongThrows(x, 0, 0, 2);
        alongThrows(x, 0, 0, -1);
        x = Checks.with("lines 3;likely 1 3;likely 2 2;");
        // all 25; 13 come back, 12 lie 2 STEPS away
        due("unlike W above", x.along(1, 2, 0), 24);
        due("unlike W below", x.along(1, 2, 1), 25);
        x = Checks.with("lines 3;likely 1 0;likely 2 0;");
        alongThrows(x, 0, 1, 0);
        alongThrows(x, 0, 10, 1);
        due("no W, k 0", x.along(0, 0, 1), 1);
    }

    // Promise 26
    private static void holds() {
        CopyOrders x = new CopyOrders();
        int[][] rows = {{0, 0, 0, 0}, {0, 1, 0, 1}, {7, 1, 2, 7}, {255, 0, 1, 2}, {0, 1, 1, 0}, {5, 0, 5, 1}};
        // the least STEPS to another order with like MARKS: 1, 3, 5, none, 1, 3
        int[] most = {0, 1, 2, 9, 0, 1};
        for (int i = 0; i < rows.length; i++) {
            for (int k = 0; k <= 9; k++) {
                Checks.lay(x, rows[i]);
                due("row " + i + " holds " + k, x.holds(k), k <= most[i] ? 1 : 0);
                due("count(6) behind it", x.count(6), 0);
            }
        }
        int[][] bad = {{}, {0, 1, 2}, {0, 1, 2, 3, 4}};
        for (int[] row : bad) {
            Checks.lay(x, row);
            due("holds() not as told", x.holds(0), -1);
            due("count(6) behind it", x.count(6), 0);
        }
        Checks.lay(x, 0, 1, 2, 3);
        due("holds(10)", x.holds(10), -1);
        Checks.lay(x, 0, 1, 2, 3);
        due("holds(-1)", x.holds(-1), -1);
        due("count(6) behind it", x.count(6), 0);
        x = Checks.with("lines 7;");
        Checks.lay(x, 0, 1, 2, 3, 4, 5, 0);
        due("six between", x.holds(5), 1);
        Checks.lay(x, 0, 1, 2, 3, 4, 5, 0);
        due("six between, too far", x.holds(6), 0);
    }

    // Promise 27
    private static void marks() {
        CopyOrders x = Checks.with("lines 7;");
        int[] wants = {1, 2, 3, 4, 5, 6, 7, 7, 7, 7};
        for (int k = 0; k <= 9; k++) {
            due("marks(" + k + ") of 7", x.marks(k), wants[k]);
        }
        due("marks(10)", x.marks(10), -1);
        due("marks(-1)", x.marks(-1), -1);
        x = Checks.with("lines 2;");
        due("marks(0) of 2", x.marks(0), 1);
        due("marks(1) of 2", x.marks(1), 2);
        due("marks(9) of 2", x.marks(9), 2);
        x = new CopyOrders();
        due("marks(2) of 4", x.marks(2), 3);
        due("marks(3) of 4", x.marks(3), 4);
    }

    // Promise 28
    private static void sense() {
        CopyOrders x = Checks.with("lines 3;sense c a;");
        int[] wants = {3, 4, 5};
        due("sense(-1)", x.sense(-1), 3);
        for (int k = 0; k < 3; k++) {
            due("sense(" + k + ")", x.sense(k), wants[k]);
        }
        due("sense(3)", x.sense(3), -1);
        due("sense(-2)", x.sense(-2), -1);
        x = Checks.with("lines 3;sense c a;sense a b;");
        due("both: sense(-1)", x.sense(-1), 1);
        due("both: sense(0)", x.sense(0), 4);
        x = Checks.with("lines 3;sense c a;sense a c;");
        due("against one another: sense(-1)", x.sense(-1), 0);
        due("against one another: sense(0)", x.sense(0), -1);
    }

    // Promise 29
    private static void mended() {
        CopyOrders x = Checks.with("lines 3;copy x abc;copy y cba;copy w ab;copy u c;sense a c;");
        due("it HOLDS: mended(0, 0)", x.mended(0, 0), 0);
        due("it HOLDS: mended(0, 1)", x.mended(0, 1), 0);
        // acb and bac are 2 from cba, abc 3
        due("the first of like ones", x.mended(1, 0), 1);
        due("how FAR", x.mended(1, 1), 2);
        due("not WHOLE: mended(2, 0)", x.mended(2, 0), 0);
        due("not WHOLE: mended(2, 1)", x.mended(2, 1), 3);
        due("one line: mended(3, 1)", x.mended(3, 1), 6);
        due("mended(4, 0)", x.mended(4, 0), -1);
        due("mended(-1, 0)", x.mended(-1, 0), -1);
        due("mended(0, 2)", x.mended(0, 2), -1);
        due("mended(0, -1)", x.mended(0, -1), -1);
        x = Checks.with("lines 3;copy x abc;sense a c;sense c a;");
        due("none HOLDS: mended(0, 0)", x.mended(0, 0), -1);
        due("none HOLDS: mended(0, 1)", x.mended(0, 1), -1);
    }

    // Promise 30
    private static void song() {
        CopyOrders x = Checks.with("lines 3;rhyme a b 5;rhyme b a 7;rhyme b c 99;rhyme c a 1;");
        int[] wants = {104, 0, 7, 99 + 1, 1 + 5, 7};
        for (int o = 0; o < 6; o++) {
            due("song(" + o + ")", x.song(o), wants[o]);
        }
        due("song(6)", x.song(6), -1);
        due("song(-1)", x.song(-1), -1);
        x = Checks.with("lines 7;rhyme a b 99;rhyme b c 99;rhyme c d 99;rhyme d e 99;rhyme e f 99;rhyme f g 99;");
        due("the greatest song", x.song(0), 594);
        due("its end and its beginning", x.song(5039), 0);
    }

    // Promise 31
    private static void better() {
        CopyOrders x = Checks.with("lines 3;copy x abc;copy w ab;rhyme c b 4;rhyme b a 3;rhyme a c 4;");
        // songs: abc 0, acb 8, bac 7, bca 0, cab 0, cba 7
        due("k 0", x.better(0, 0), 0);
        due("k 1", x.better(0, 1), 1);
        due("k 21", x.better(0, 21), 1);
        due("not WHOLE", x.better(1, 3), -1);
        due("k 22", x.better(0, 22), -1);
        due("k -1", x.better(0, -1), -1);
        due("better(2, 0)", x.better(2, 0), -1);
        due("better(-1, 0)", x.better(-1, 0), -1);
        x = Checks.with("lines 3;copy x bca;copy y abc;rhyme b a 3;");
        // bac is 1 from bca, cba 1 too; bac 1 from abc, cba 3
        due("the first of like ones", x.better(0, 3), 2);
        due("the least STEPS of like ones", x.better(1, 3), 2);
        x = Checks.with("lines 3;copy x cab;rhyme b a 3;");
        // bac is 3 from cab, cba 1
        due("fewer STEPS ahead of the first", x.better(0, 3), 5);
        x = Checks.with("lines 3;copy x cab;");
        due("no song: itself", x.better(0, 3), 4);
    }

    // Promise 32
    private static void join() {
        CopyOrders x = Checks.with("lines 3;copy x bca;copy y cba;copy w ab;copy v cb;copy u c;");
        due("join(0, 1, 0)", x.join(0, 1, 0), 3);
        due("join(0, 1, 1)", x.join(0, 1, 1), 1);
        due("join(0, 0, 0)", x.join(0, 0, 0), 3);
        due("join(0, 0, 1)", x.join(0, 0, 1), 0);
        // a ahead of b, c ahead of b: acb
        due("join(2, 3, 0)", x.join(2, 3, 0), 1);
        due("join(2, 3, 1)", x.join(2, 3, 1), 0);
        due("join(4, 4, 0)", x.join(4, 4, 0), 0);
        // ab and bca: they differ in a and b alone, so one STEP is left, bca itself or cab
        due("join(0, 2, 1)", x.join(0, 2, 1), 1);
        due("join(0, 2, 0)", x.join(0, 2, 0), 3);
        due("join(0, 1, 2)", x.join(0, 1, 2), -1);
        due("join(0, 1, -1)", x.join(0, 1, -1), -1);
        due("join(5, 0, 0)", x.join(5, 0, 0), -1);
        due("join(0, -1, 0)", x.join(0, -1, 0), -1);
    }

    // Promise 33
    private static void woven() {
        CopyOrders x = Checks.with("lines 4;copy p abcd;copy q dcba;copy r cdab;copy s bd;copy t acbd;copy u ad;");
        due("of itself", x.woven(0, 1, 0), 1);
        due("of the other one", x.woven(0, 1, 1), 1);
        due("cd and ab", x.woven(0, 0, 2), 2);
        due("ac and bd", x.woven(0, 5, 4), 2);
        due("a piece with lines between", x.woven(0, 0, 3), 1);
        due("dcba by abcd alone", x.woven(0, 0, 1), 4);
        due("b by s, a by neither", x.woven(3, 3, 0), -1);
        due("a by u, b by s, c by neither", x.woven(3, 5, 0), -1);
        due("ad by bd: a by neither", x.woven(3, 3, 5), -1);
        due("a by u, bd by s", x.woven(3, 5, 5), 1);
        due("woven(6, 0, 0)", x.woven(6, 0, 0), -2);
        due("woven(0, 6, 0)", x.woven(0, 6, 0), -2);
        due("woven(0, 0, 6)", x.woven(0, 0, 6), -2);
        due("woven(-1, 0, 0)", x.woven(-1, 0, 0), -2);
        x = Checks.with("lines 4;copy p ab;copy q cd;copy r acbd;copy s abcd;copy t abdc;");
        due("ab and cd", x.woven(0, 1, 3), 2);
        due("ab, d, c", x.woven(0, 1, 4), 3);
        due("each alone", x.woven(0, 1, 2), 4);
    }

    // Promise 34
    private static void sentenceTokens() {
        sentenceFault(1, "^");
        sentenceFault(1, "  ^");
        sentenceFault(1, "^x");
        sentenceFault(1, "^or whole");
        sentenceFault(1, "^lines");
        sentenceFault(1, "^)");
        sentenceFault(1, "^;");
        sentenceFault(1, "^5");
        sentenceFault(1, "whole ^whole");
        sentenceFault(1, "whole^;");
        sentenceFault(1, "whole^.");
        sentenceFault(1, "whole^)");
        sentenceFault(1, "whole or^");
        sentenceFault(1, "whole and ^or");
        sentenceFault(1, "not^");
        sentenceFault(1, "not ^and");
        sentenceFault(1, "(whole^");
        sentenceFault(1, "(whole ^whole)");
        sentenceFault(1, "(^)");
        sentenceFault(1, "has^");
        sentenceFault(1, "has ^1");
        sentenceFault(1, "has ^(");
        sentenceFault(2, "has ^d");
        sentenceFault(2, "has ^ab");
        sentenceFault(2, "has ^or");
        sentenceFault(2, "ahead ^d a");
        sentenceFault(2, "ahead a ^d");
        sentenceFault(1, "ahead a^");
        sentenceFault(1, "far ^5");
        sentenceFault(1, "far ^whole<1");
        sentenceFault(1, "far ^abcdefgh<1");
        sentenceFault(3, "far ^zz>1");
        sentenceFault(3, "far ^s>1");
        sentenceFault(3, "steps ^a>1");
        sentenceFault(1, "steps x^");
        sentenceFault(1, "steps x ^1");
        sentenceFault(1, "steps x^;1");
        sentenceFault(1, "steps x<^");
        sentenceFault(1, "song<^x");
        sentenceFault(1, "song^(");
        sentenceFault(1, "size=^100");
        sentenceFault(1, "size ^whole");
        sentenceFault(1, "^sizewho<1");
        sentenceFault(1, "size<^=1");
        saidIs(1, "", "", "ahead a a");
        saidIs(1, "xyzwvu", "", " size\n>\n0 ");
        saidIs(1, "xyzwvu", "", "size>00");
        saidIs(1, "xyzwvu", "", "size<99");
    }

    private static void sentenceMany() {
        String nineteen = "whole or ".repeat(19);
        saidIs(20, "xyz", "", nineteen + "whole");
        sentenceFault(4, nineteen + "whole or ^whole");
        sentenceFault(4, nineteen + "not ^whole");
        sentenceFault(1, nineteen + "whole or ^x");
        sentenceFault(4, nineteen + "(^whole");
        saidIs(8, "wvu", "", "not not not not not not not whole");
        saidIs(8, "xyz", "", "(((((((whole)))))))");
        sentenceFault(4, "not not not not not not not not ^whole");
        sentenceFault(4, "((((((((^whole))))))))");
        sentenceFault(4, "((((((((^(whole)))))))))");
        sentenceFault(1, "((((((((^)");
        sentenceFault(4, "(not (not (not (not ^(whole)))))");
        saidIs(14, "wvu", "", "not not not not not not not whole and not not not not not whole");
        saidIs(1, "xyz", "", "whole" + " ".repeat(195));
        sentenceFault(1, "whole" + " ".repeat(195) + "^ ");
        sentenceFault(1, " ".repeat(198) + "wh^ole");
        sentenceFault(1, " ".repeat(198) + "^who");
        sentenceFault(2, " ".repeat(195) + "has ^de");
    }

    // Promise 35
    private static void said() {
        // x abc, y cba, z bac, w ab, v cb, u c
        String more = "sense b c;rhyme a b 5;rhyme c b 2;rhyme b a 2;";
        saidIs(1, "xyz", more, "whole");
        saidIs(1, "xzwu", more, "holds");
        saidIs(1, "xyzw", more, "has a");
        saidIs(1, "xyzvu", more, "has c");
        saidIs(1, "xw", more, "ahead a b");
        saidIs(1, "yz", more, "ahead b a");
        saidIs(1, "yv", more, "ahead c b");
        // FAR from abc: 0 3 1 3 4 6
        saidIs(1, "yw", more, "far x=3");
        saidIs(1, "xz", more, "far x<3");
        saidIs(1, "vu", more, "far x>3");
        // STEPS from abc: 0 3 1 0 1 0
        saidIs(1, "zv", more, "steps x=1");
        saidIs(1, "xwu", more, "steps x<1");
        saidIs(1, "yzv", more, "steps x>0");
        // songs: 5, 4, 2, 5, 2, 0
        saidIs(1, "xw", more, "song=5");
        saidIs(1, "zvu", more, "song<4");
        saidIs(1, "xyw", more, "song>2");
        saidIs(1, "wv", more, "size=2");
        saidIs(1, "u", more, "size<2");
        saidIs(1, "xyz", more, "size>2");
        CopyOrders x = Checks.with("copy x abcd;");
        due("sentence()", Checks.sentence(x, "whole or far x=9"), 2);
        due("said()", x.said(), 1);
        Checks.lay(x, 0);
        x.add();
        Checks.lay(x, 1, 0, 2, 3);
        x.add();
        due("said() of added ones", x.said(), 7);
        x = new CopyOrders();
        due("sentence() without COPIES", Checks.sentence(x, "holds"), 1);
        due("said() without COPIES", x.said(), 0);
    }

    private static void saidJoined() {
        saidIs(2, "wvu", "", "not whole");
        saidIs(2, "xyz", "", "whole or whole");
        saidIs(2, "z", "", "ahead b a and ahead a c");
        saidIs(2, "xyzw", "", "whole or ahead a b");
        // 'and' joins ahead of 'or'
        saidIs(3, "uy", "", "size=1 or whole and ahead c a");
        saidIs(3, "yu", "", "whole and ahead c a or size=1");
        saidIs(4, "y", "", "(size=1 or whole) and ahead c a");
        saidIs(4, "y", "", "ahead c a and (size=1 or whole)");
        saidIs(3, "", "", "not whole and whole");
        saidIs(4, "xyzwvu", "", "not (whole and size<3)");
        saidIs(4, "xyzwvu", "", "not whole or has b and has a");
        saidIs(4, "w", "", "not whole and has b and has a");
        saidIs(5, "xyzu", "", "whole or not (has b or has a)");
        saidIs(5, "wu", "", "(ahead a b or size=1) and not whole");
        saidIs(5, "xv", "", "(ahead a b and whole or ahead c b and size=2)");
        saidIs(6, "xyv", "", "(whole or size=2) and (ahead c b or far x=0)");
    }

    // Promises 36 and 37
    private static void imageAndRestore() {
        CopyOrders x = Checks.with("lines 3;copy x cab;desk d most 2;likely 1 4;sense c a;rhyme c a 6;");
        Checks.lay(x, 1);
        x.add();
        Checks.sentence(x, "size=1");
        due("image(0)", x.image(0), true);
        due("image(2)", x.image(2), false);
        due("image(-1)", x.image(-1), false);
        due("restore(1), nothing kept", x.restore(1), false);
        due("restore(2)", x.restore(2), false);
        due("restore(-1)", x.restore(-1), false);
        Checks.house(x, "lines 2;copy z ba;desk e drops;");
        due("image(1)", x.image(1), true);
        Checks.lay(x, 0);
        x.add();
        due("restore(0)", x.restore(0), true);
        int[] counts = {3, 2, 1, 6, 1, 1};
        for (int what = 0; what < counts.length; what++) {
            due("restored: count(" + what + ")", x.count(what), counts[what]);
        }
        due("restored: line(0, 0)", x.line(0, 0), 2);
        due("restored: line(1, 0)", x.line(1, 0), 1);
        due("restored: made(0, 0)", x.made(0, 0), 1);
        due("restored: ways(0, 2, 1)", x.ways(0, 2, 1), 4);
        due("restored: sense(-1)", x.sense(-1), 3);
        due("restored: song(4)", x.song(4), 6);
        due("restored: said()", x.said(), 2);
        due("restored: sentence() by its NAME", Checks.sentence(x, "far x=0"), 1);
        due("restored: said() of it", x.said(), 1);
        Checks.lay(x, 2);
        due("add() behind", x.add(), 2);
        due("restore(0) again", x.restore(0), true);
        due("the image is not what came later: count(1)", x.count(1), 2);
        due("the image is not what came later: said()", x.said(), 2);
        due("restore(1)", x.restore(1), true);
        due("the other image: count(0)", x.count(0), 2);
        due("the other image: count(1)", x.count(1), 1);
        due("the other image: no SENTENCE", x.said(), -1);
        due("image(0) anew", x.image(0), true);
        due("house()", Checks.house(x, ""), 0);
        due("restore(0) of the new one", x.restore(0), true);
        due("count(0) of the new one", x.count(0), 2);
    }

    private static void whatRestoreLeaves() {
        CopyOrders x = Checks.with(THREE);
        x.image(0);
        Checks.lay(x, 0, 1, 2);
        x.tree();
        x.likeliest(0, 1, 0, 1);
        due("house() with a FAULT", Checks.house(x, "lines 9;"), -7);
        Checks.lay(x, 1, 2, 3);
        due("image(1)", x.image(1), true);
        due("restore(0)", x.restore(0), true);
        due("the tape stays", x.count(6), 3);
        due("fault() stays", x.fault(), 2);
        due("likely() stays", x.likely(), 1);
        due("from(1) stays", x.from(1), 2);
        Checks.house(x, "");
        due("fault() is new", x.fault(), 0);
        x.restore(0);
        due("missing() of the restored ones", x.missing(1), -1);
    }

    // Promise 38
    private static void count() {
        CopyOrders x = Checks.with(THREE + "sense a b;sense b a;rhyme a b 1;");
        int[] counts = {3, 6, 3, 6, 2, 1, 0};
        for (int what = 0; what < counts.length; what++) {
            due("count(" + what + ")", x.count(what), counts[what]);
        }
        due("count(7)", x.count(7), -1);
        due("count(-1)", x.count(-1), -1);
        x.feed(0, 0, 0, 0, 0);
        x.end(13);
        due("count(6)", x.count(6), 13);
        int[] orders = {2, 6, 24, 120, 720, 5040};
        for (int n = 2; n <= 7; n++) {
            due("count(3) of " + n, Checks.with("lines " + n + ";").count(3), orders[n - 2]);
        }
    }

    private static void tapeIsEmptyBehindEachTaking() {
        CopyOrders x = Checks.with(THREE);
        for (int call = 0; call < 12; call++) {
            Checks.lay(x, 0, 2, 1);
            switch (call) {
                case 0: x.house(); break;
                case 1: x.sentence(); break;
                case 2: x.add(); break;
                case 3: x.judge(0); break;
                case 4: x.judge(9); break;
                case 5: x.tree(); break;
                case 6: x.holds(1); break;
                case 7: x.holds(99); break;
                default: x.missing(0); x.from(0); x.said(); x.image(0); x.nearest(0, 0); x.drawn(0, 1, 1); break;
            }
            due("count(6) behind call " + call, x.count(6), call < 8 ? 0 : 3);
        }
    }

    /** README.md tells this run, call by call. */
    private static void exampleOfTheReadme() {
        CopyOrders desk = new CopyOrders();
        due("feed, README", desk.feed(0x636f7079, 0x20782061, 0x6263643b, 0x636f7079, 0x20792062), 20);
        due("feed, README", desk.feed(0x6163643b, 0, 0, 0, 0), 40);
        due("end(24), README", desk.end(24), true);
        due("house(), README", desk.house(), 2);
        due("between(0, 1, 0), README", desk.between(0, 1, 0), 1);
        due("order(6, 0), README", desk.order(6, 0), 1);
    }
}
