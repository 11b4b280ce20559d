/** The text of a HOUSE (promises 4 and 5): each sentence that names a boundary, at it and beyond. */
public final class HouseBoundaryTest {
    private static final String LETTERS = "abcdefgh";
    private static final String[] RESERVED = {"lines", "copy", "desk", "swap", "most", "drops", "likely",
        "sense", "rhyme", "or", "and", "not", "whole", "holds", "has", "ahead", "far", "steps", "song", "size"};
    private static final int[] NO_BLANKS = {0, 9, 11, 12, 13, 31, 33, 127, 128, 160, 255};

    public static void main(String[] args) {
        blanks();
        words();
        numbers();
        signs();
        howFarTokensGo();
        length();
        lengthAndTokens();
        lines();
        linesOnceAndAhead();
        orders();
        deskWays();
        likely();
        sense();
        rhyme();
        names();
        namesToldOnce();
        howMany();
        numbered();
        firstFault();
        leastFault();
        faultOne();
        faultTwo();
        faultThree();
        faultFour();
        answers();
        stays();
        kinds();
        Checks.finish();
    }

    private static void due(String call, long got, long want) {
        Checks.due(call, got, want);
    }

    private static void due(String call, boolean got, boolean want) {
        Checks.due(call, got, want);
    }

    private static CopyOrders is(int lines, String text) {
        return Checks.houseIs(lines, text);
    }

    private static void fault(int kind, String marked) {
        Checks.houseFault(kind, marked);
    }

    private static String many(String line, int times) {
        StringBuilder text = new StringBuilder();
        for (int i = 0; i < times; i++) {
            text.append(line.replace('#', (char) ('a' + i)));
        }
        return text.toString();
    }

    /** So many unlike pairs of the first four letters, at most 12. */
    private static String pairs(String line, int times) {
        String all = "abacadbabcbdcacbcddadbdc";
        StringBuilder text = new StringBuilder();
        for (int i = 0; i < times; i++) {
            text.append(line.replace("#", all.charAt(2 * i) + " " + all.charAt(2 * i + 1)));
        }
        return text.toString();
    }

    private static void blanks() {
        Checks.says("with blanks (32, 10) between them or not");
        is(1, " lines 3 ; ");
        is(1, "\nlines\n3\n;\n");
        is(2, "lines 3;copy x abc;");
        is(2, "\n \n lines \n\n  3 \n;  \ncopy\nx\n\n\nabc ;");
        for (int b : NO_BLANKS) {
            fault(1, "^" + (char) b + "lines 3;");
            fault(1, "lines^" + (char) b + "3;");
            fault(1, "lines 3;^" + (char) b);
        }
    }

    private static void words() {
        Checks.says("WORDS: small letters, 1 to 7");
        is(1, "copy x ab;");
        is(1, "copy abcdefg ab;");
        fault(1, "copy ^abcdefgh ab;");
        is(1, "desk zzzzzzz swap;");
        fault(1, "desk ^zzzzzzzz swap;");
        fault(1, "copy ^zzzzzzzzzzzzzzzzzzzzzzzzz ab;");
        is(2, "lines 7;copy x abcdefg;");
        fault(1, "lines 7;copy x ^abcdefga;");
        is(1, "copy z ab;");
        fault(1, "copy ^` ab;");
        fault(1, "copy ^{ ab;");
        fault(1, "copy ^X ab;");
        fault(1, "copy ^Z ab;");
        fault(1, "copy x^Y ab;");
        fault(1, "copy ^\u00e4 ab;");
    }

    private static void numbers() {
        Checks.says("NUMBERS: 1 to 2 digits");
        is(1, "lines 3;");
        is(1, "lines 03;");
        fault(1, "lines ^003;");
        is(1, "likely 1 09;");
        fault(1, "likely 1 ^009;");
        fault(1, "likely 1 ^00000000001;");
        fault(1, "lines ^/;");
        fault(1, "lines ^:;");
        fault(1, "lines ^-3;");
        fault(1, "lines ^+3;");
    }

    private static void signs() {
        Checks.says("; < = > ( ) .");
        for (char sign : "<=>().,:'*?".toCharArray()) {
            fault(1, "lines 3^" + sign + ";");
            fault(1, "^" + sign);
        }
        is(1, "lines 3;");
        fault(1, "lines 3;^;");
    }

    private static void howFarTokensGo() {
        Checks.says("A WORD, NUMBER goes on as long as small letters and digits do; what is not as told is no TOKEN");
        fault(1, "lines ^3a;");
        fault(1, "copy ^x1 ab;");
        fault(1, "copy ^1x ab;");
        fault(1, "copy x ^ab1;");
        fault(1, "copy x ^1ab;");
        fault(1, "^lines3;");
        fault(1, "^1lines 3;");
        fault(1, "^copyx ab;");
        fault(1, "desk d ^most3;");
        fault(1, "likely ^1a 1;");
        fault(1, "sense ^a1 b;");
        CopyOrders x = is(2, "lines 3;copy x cab;");
        due("the sign ends the WORD: size(0)", x.size(0), 3);
    }

    private static void length() {
        Checks.says("A HOUSE is a text of at most 700 bytes");
        String copy = "copy x ab;";
        is(1, " ".repeat(689) + copy);
        is(1, " ".repeat(690) + copy);
        fault(1, " ".repeat(691) + "copy x ab^;");
        is(1, copy + " ".repeat(690));
        fault(1, copy + " ".repeat(690) + "^\n");
        fault(1, copy + " ".repeat(690) + "^" + " ".repeat(40));
        is(0, " ".repeat(700));
        fault(1, " ".repeat(700) + "^ ");
        fault(1, " ".repeat(700) + "^" + " ".repeat(40));
    }

    private static void lengthAndTokens() {
        Checks.says("700, if there are more and no FAULT is ahead: TOKENS that begin ahead of it are read whole");
        fault(1, "^x" + " ".repeat(720));
        fault(2, "lines ^8;" + " ".repeat(720));
        fault(3, "sense a ^a;" + " ".repeat(720));
        fault(1, " ".repeat(699) + "^x;");
        fault(1, " ".repeat(700) + "^x;");
        fault(1, " ".repeat(701) + "x;", 700);
        // a NUMBER from 699 on: 3 alone would be as told
        fault(2, " ".repeat(693) + "lines ^38;");
        fault(1, " ".repeat(693) + "lines 0^7;");
        fault(1, " ".repeat(693) + "lines ^077;");
        // an ORDER from 699 on: a alone, ab, and aa
        fault(1, " ".repeat(692) + "copy x a^b;");
        fault(2, " ".repeat(692) + "copy x ^aa;");
        fault(2, " ".repeat(692) + "copy x ^abcdaaa;");
        fault(1, " ".repeat(692) + "copy x ^abcdabcd;");
        fault(1, " ".repeat(680) + "copy x ab;copy ^lines ab;");
        // a NAME from 699 on: the next TOKEN begins behind 700
        fault(1, " ".repeat(694) + "copy xyzw ab;", 700);
        fault(1, " ".repeat(694) + "copy lines ab;", 699);
        // a second NAME alike in its first byte, but not as a whole
        fault(1, "copy x ab;" + " ".repeat(684) + "copy xy ab;", 700);
        fault(3, "copy xy ab;" + " ".repeat(683) + "copy ^xy ab;");
    }

    /** A FAULT at a place that the mark can't tell, as its TOKEN goes on over it. */
    private static void fault(int kind, String text, int place) {
        CopyOrders x = new CopyOrders();
        due("house() of " + text, Checks.house(x, text), -1 - place);
        due("fault() of " + text, x.fault(), kind);
    }

    private static void lines() {
        Checks.says("'lines' N (2 to 7");
        int[] orders = {2, 6, 24, 120, 720, 5040};
        for (int n = 2; n <= 7; n++) {
            CopyOrders x = is(1, "lines " + n + ";");
            due("count(0)", x.count(0), n);
            due("count(3)", x.count(3), orders[n - 2]);
            x = is(1, "lines 0" + n + ";");
            due("count(0)", x.count(0), n);
        }
        for (String n : "0,00,1,01,8,9,10,12,20,27,70,72,99".split(",")) {
            fault(2, "lines ^" + n + ";");
        }
        Checks.says("4 without");
        due("count(0)", is(0, "").count(0), 4);
        due("count(0)", is(1, "desk d swap;").count(0), 4);
        CopyOrders x = Checks.with("lines 7;");
        Checks.house(x, "copy x abcd;");
        due("count(0) behind lines 7", x.count(0), 4);
        fault(2, "copy x ^abcde;");
    }

    private static void linesOnceAndAhead() {
        Checks.says("once");
        fault(3, "lines 3;^lines 3;");
        fault(3, "lines 4;^lines 7;");
        fault(3, "lines 4;desk d swap;^lines 7;");
        fault(3, "desk d swap;lines 4;^lines 7;");
        CopyOrders x = Checks.with("lines 3;");
        due("once in each HOUSE", Checks.house(x, "lines 4;"), 1);
        Checks.says("ahead of all but desks");
        due("count(0)", is(7, many("desk #d most 3;", 6) + "lines 3;").count(0), 3);
        is(2, "lines 3;desk d drops;");
        fault(3, "copy x ab;^lines 3;");
        fault(3, "likely 1 1;^lines 3;");
        fault(3, "sense a b;^lines 3;");
        fault(3, "rhyme a b 1;^lines 3;");
        fault(3, "copy x ab;desk d swap;^lines 3;");
        fault(3, "desk d swap;likely 1 1;^lines 3;");
        is(5, "lines 3;copy x ab;likely 1 1;sense a b;rhyme a b 1;");
    }

    private static void orders() {
        Checks.says("ORDER: a WORD of the first N small letters, each once at most, one at least");
        for (int n = 2; n <= 7; n++) {
            String lines = "lines " + n + ";";
            String all = LETTERS.substring(0, n);
            char last = LETTERS.charAt(n - 1);
            char beyond = LETTERS.charAt(n);
            CopyOrders x = is(3, lines + "copy x " + all + ";copy y " + last + ";");
            due("size(0)", x.size(0), n);
            due("size(1)", x.size(1), 1);
            due("line(1, 0)", x.line(1, 0), n - 1);
            fault(2, lines + "copy x ^" + beyond + ";");
            fault(2, lines + "copy x ^a" + beyond + ";");
            fault(2, lines + "copy x ^z;");
            fault(2, lines + "copy x ^" + last + last + ";");
            fault(2, lines + "copy x ^" + last + "a" + last + ";");
            if (n < 7) {
                fault(2, lines + "copy x ^" + all + "a;");
            }
        }
        fault(1, "copy x^;");
        fault(2, "copy x ^lines;");
        fault(2, "copy x ^x;");
    }

    private static void deskWays() {
        Checks.says("'desk' NAME ( 'swap' | 'most' K | 'drops' ) (K 1 to 9)");
        is(3, "desk d swap;desk e most 1;desk f drops;");
        // two whole orders, 6 STEPS apart
        int[] fewest = {6, 3, 2, 2, 2, 1, 1, 1, 1};
        for (int k = 1; k <= 9; k++) {
            CopyOrders x = is(3, "copy x abcd;copy y dcba;desk d most " + k + ";");
            due("fewest(0, 1, 0) by most " + k, x.fewest(0, 1, 0), fewest[k - 1]);
        }
        for (String k : "0,00,10,11,19,90,99".split(",")) {
            fault(2, "desk d most ^" + k + ";");
        }
        fault(1, "desk d most ^100;");
        fault(1, "desk d most^;");
        fault(1, "desk d swap ^1;");
        fault(1, "desk d drops ^1;");
        fault(1, "desk d ^drop;");
        fault(1, "desk d ^whole;");
        fault(1, "desk d ^1;");
        fault(1, "desk d^;");
    }

    private static void likely() {
        Checks.says("P 1 to N less 1");
        for (int n = 2; n <= 7; n++) {
            is(2, "lines " + n + ";likely 1 2;");
            is(2, "lines " + n + ";likely " + (n - 1) + " 2;");
            fault(2, "lines " + n + ";likely ^" + n + " 2;");
            fault(2, "lines " + n + ";likely ^0 2;");
            fault(2, "lines " + n + ";likely ^99 2;");
        }
        Checks.says("W 0 to 9; 1 without");
        for (int w = 0; w <= 9; w++) {
            CopyOrders x = is(1, "likely 2 " + w + ";");
            due("W at 2: ways(0, 2, 1)", x.ways(0, 2, 1), w);
            due("W without at 1: ways(0, 6, 1)", x.ways(0, 6, 1), 1);
            due("W without at 3: ways(0, 1, 1)", x.ways(0, 1, 1), 1);
        }
        fault(2, "likely 2 ^10;");
        fault(2, "likely 2 ^99;");
        fault(1, "likely 2 ^100;");
        CopyOrders x = Checks.with("likely 1 9;likely 2 9;likely 3 9;");
        Checks.house(x, "");
        due("W without in a new HOUSE: ways(0, 2, 1)", x.ways(0, 2, 1), 1);
        Checks.says("each P once");
        is(3, "likely 3 1;likely 1 1;likely 2 1;");
        fault(3, "likely 3 1;likely ^3 1;");
        fault(3, "likely 3 0;likely 1 1;likely ^03 0;");
        x = Checks.with("likely 1 9;");
        due("once in each HOUSE", Checks.house(x, "likely 1 9;"), 1);
    }

    private static void sense() {
        Checks.says("'sense' A B (two unlike ones of the first N letters, each a WORD of one");
        for (int n = 2; n <= 7; n++) {
            String lines = "lines " + n + ";";
            char last = LETTERS.charAt(n - 1);
            char beyond = LETTERS.charAt(n);
            is(3, lines + "sense a " + last + ";sense " + last + " a;");
            fault(2, lines + "sense ^" + beyond + " a;");
            fault(2, lines + "sense a ^" + beyond + ";");
            fault(3, lines + "sense " + last + " ^" + last + ";");
            fault(2, lines + "sense ^" + beyond + " " + beyond + ";");
        }
        fault(3, "sense a ^a;");
        fault(2, "sense ^ab c;");
        fault(2, "sense a ^bc;");
        fault(2, "sense ^z a;");
        fault(2, "sense ^sense a;");
        Checks.says("each two in this order once");
        is(2, "sense a b;sense b a;");
        fault(3, "sense a b;sense a ^b;");
        fault(3, "sense a b;sense b a;sense b ^a;");
        fault(3, pairs("sense #;", 11) + "sense a ^b;");
        fault(3, pairs("sense #;", 11) + "sense d ^b;");
        CopyOrders x = Checks.with("sense a b;");
        due("once in each HOUSE", Checks.house(x, "sense a b;"), 1);
    }

    private static void rhyme() {
        Checks.says("'rhyme' A B G (likewise; G 1 to 99)");
        for (int n = 2; n <= 7; n++) {
            String lines = "lines " + n + ";";
            char last = LETTERS.charAt(n - 1);
            char beyond = LETTERS.charAt(n);
            is(3, lines + "rhyme a " + last + " 1;rhyme " + last + " a 1;");
            fault(2, lines + "rhyme ^" + beyond + " a 1;");
            fault(2, lines + "rhyme a ^" + beyond + " 1;");
            fault(3, lines + "rhyme " + last + " ^" + last + " 1;");
        }
        fault(2, "rhyme ^ab c 1;");
        fault(2, "rhyme a ^rhyme 1;");
        is(2, "sense a b;rhyme a b 1;");
        is(2, "rhyme a b 1;sense a b;");
        fault(3, "rhyme a b 1;rhyme a ^b 2;");
        fault(3, "rhyme a b 1;rhyme b a 1;rhyme b ^a 1;");
        fault(3, pairs("rhyme # 7;", 11) + "rhyme d ^b 7;");
        for (int g = 1; g <= 99; g += 14) {
            due("song(0) with G " + g, is(1, "rhyme a b " + g + ";").song(0), g);
        }
        due("song(0) with G 99", is(1, "rhyme a b 99;").song(0), 99);
        due("song(0) with G 01", is(1, "rhyme a b 01;").song(0), 1);
        fault(2, "rhyme a b ^0;");
        fault(2, "rhyme a b ^00;");
        fault(1, "rhyme a b ^100;");
        fault(1, "rhyme a b^;");
        CopyOrders x = Checks.with("rhyme a b 1;");
        due("once in each HOUSE", Checks.house(x, "rhyme a b 2;"), 1);
        due("song(0) of the new one", x.song(0), 2);
    }

    private static void names() {
        Checks.says("NAME: a WORD, none of those told here or in a SENTENCE");
        for (String word : RESERVED) {
            fault(1, "copy ^" + word + " ab;");
            fault(1, "desk ^" + word + " swap;");
            is(2, "copy " + word.substring(1) + "x ab;desk " + word.substring(0, 1) + "q swap;");
        }
        is(4, "copy a ab;copy abcd ab;copy n ab;copy name ab;");
        is(3, "desk moss most 1;copy swaps ab;copy drop ab;");
        fault(1, "copy ^1 ab;");
        fault(1, "copy ^; ab;");
    }

    private static void namesToldOnce() {
        Checks.says("told once, by its COPY or DESK");
        fault(3, "copy x ab;copy ^x ab;");
        fault(3, "copy x ab;desk ^x swap;");
        fault(3, "desk x swap;copy ^x ab;");
        fault(3, "desk x swap;desk ^x swap;");
        fault(3, many("copy #k ab;", 9) + "copy ^ik ab;");
        fault(3, many("desk #k swap;", 5) + "desk ^ek swap;");
        fault(3, many("desk #k swap;", 6) + "copy ^fk ab;");
        fault(3, "copy xyzxyzx ab;copy ^xyzxyzx ab;");
        is(2, "copy xyzxyzx ab;copy xyzxyzy ab;");
        is(2, "copy yxyzxyz ab;copy xxyzxyz ab;");
        is(3, "copy x ab;copy xx ab;copy xxx ab;");
        CopyOrders x = Checks.with("copy x ab;desk y swap;");
        due("once in each HOUSE", Checks.house(x, "desk x swap;copy y ab;"), 2);
    }

    private static void howMany() {
        Checks.says("10 COPIES, 6 DESKS, 12 'sense', 12 'rhyme' at most");
        due("count(1)", is(9, many("copy #k ab;", 9)).count(1), 9);
        due("count(1)", is(10, many("copy #k ab;", 10)).count(1), 10);
        fault(4, many("copy #k ab;", 10) + "^copy x ab;");
        due("count(2)", is(5, many("desk #k drops;", 5)).count(2), 5);
        due("count(2)", is(6, many("desk #k drops;", 6)).count(2), 6);
        fault(4, many("desk #k drops;", 6) + "^desk x drops;");
        due("count(4)", is(11, pairs("sense #;", 11)).count(4), 11);
        due("count(4)", is(12, pairs("sense #;", 12)).count(4), 12);
        fault(4, pairs("sense #;", 12) + "^sense a b;");
        fault(4, "lines 5;" + pairs("sense #;", 12) + "^sense a e;");
        due("count(5)", is(11, pairs("rhyme # 5;", 11)).count(5), 11);
        due("count(5)", is(12, pairs("rhyme # 5;", 12)).count(5), 12);
        fault(4, pairs("rhyme # 5;", 12) + "^rhyme a b 5;");
        fault(4, "lines 5;" + pairs("rhyme # 5;", 12) + "^rhyme a e 5;");
        String all = many("desk #d swap;", 6) + "lines 7;" + many("copy #k ab;", 10)
                + "likely 1 0;likely 2 0;likely 3 0;likely 4 0;likely 5 0;likely 6 0;"
                + pairs("sense #;", 12) + pairs("rhyme # 9;", 12);
        CopyOrders x = is(47, all);
        int[] counts = {7, 10, 6, 5040, 12, 12, 0};
        for (int what = 0; what < counts.length; what++) {
            due("count(" + what + ")", x.count(what), counts[what]);
        }
    }

    private static void numbered() {
        Checks.says("numbered from 0 each");
        CopyOrders x = is(6, "desk p drops;copy u abcd;desk q swap;copy v bacd;copy w abc;desk r most 2;");
        due("size(0)", x.size(0), 4);
        due("size(2)", x.size(2), 3);
        due("size(3)", x.size(3), -1);
        due("line(1, 0)", x.line(1, 0), 1);
        due("made(0, 1): DESKS 1 and 2", x.made(0, 1), 6);
        due("made(0, 2): DESK 0", x.made(0, 2), 1);
        due("fewest(0, 1, 1)", x.fewest(0, 1, 1), 1);
        due("fewest(0, 1, 3)", x.fewest(0, 1, 3), -1);
    }

    private static void firstFault() {
        Checks.says("FAULTS, the first along the text");
        fault(2, "copy x ^aa;copy x ab;lines 3;!");
        fault(3, "copy x ab;copy ^x aa;!");
        fault(1, "copy x ab^!;copy x aa;lines 8;");
        fault(3, "copy x ab;^lines 8;");
        fault(3, "likely 1 1;likely ^1 10;");
        fault(3, "sense a ^a 3;");
        fault(3, "rhyme a ^a 0;");
        fault(2, "sense ^e e;");
        fault(2, "desk d most ^0 0;");
        fault(4, many("copy #k ab;", 10) + "^copy ak e;!");
        fault(3, many("copy #k ab;", 9) + "copy ^ak ab;copy x ab;");
    }

    private static void leastFault() {
        Checks.says("of one TOKEN the least");
        fault(1, "copy x ab ^lines 3;");
        fault(1, "lines 3 ^lines 3;");
        fault(1, many("copy #k ab;", 9) + "copy jk ab ^copy x ab;");
        fault(1, many("desk #k swap;", 5) + "desk fk swap ^desk x swap;");
        fault(1, pairs("sense #;", 11) + "sense d c ^sense a b;");
        fault(1, pairs("rhyme # 5;", 11) + "rhyme d c 5 ^rhyme a b 5;");
        fault(1, "likely 1 1;likely ^a 1;");
        fault(2, "likely 1 1;likely ^99 1;");
        fault(2, "sense a b;sense a ^ab;");
        fault(2, "rhyme a b 1;rhyme a ^e 1;");
    }

    private static void faultOne() {
        Checks.says("1 no TOKEN, or one that can't come (at it; the end: how many bytes there are");
        String[] tokens = {"lines", "4", ";", "copy", "x", "abc", ";", "desk", "d", "most", "3", ";", "desk", "e",
            "swap", ";", "likely", "1", "2", ";", "sense", "a", "b", ";", "rhyme", "a", "b", "3", ";"};
        StringBuilder text = new StringBuilder();
        int lines = 0;
        for (String token : tokens) {
            text.append(token);
            if (token.equals(";")) {
                lines++;
                is(lines, text.toString());
            } else {
                fault(1, text + "^");
                fault(1, text + " \n ^");
                fault(1, text + " ^!");
                fault(1, text + " ^(;");
            }
            text.append(' ');
        }
        is(0, "");
        fault(1, "^!");
        for (String word : "swap,most,drops,or,not,whole,copies,x,a,z,linesx".split(",")) {
            fault(1, "^" + word);
            fault(1, "lines 3;^" + word + " 3;");
        }
        fault(1, "^1;");
    }

    private static void faultTwo() {
        Checks.says("2 a NUMBER that is not as told, a WORD that is no ORDER, A or B that is no such letter (at it)");
        fault(2, "  lines\n  ^9 ;");
        fault(2, "desk d  most  ^00 ;");
        fault(2, " likely  ^7  1;");
        fault(2, " likely 1  ^99;");
        fault(2, "rhyme a b   ^00;");
        fault(2, "copy  x  ^abca  ;");
        fault(2, "copy  x  ^swap  ;");
        fault(2, "sense\n^h a;");
        fault(2, "sense a\n^swap;");
        fault(2, "rhyme\n^swap a 1;");
        fault(2, "rhyme a\n^h 1;");
    }

    private static void faultThree() {
        Checks.says("3 a NAME told twice, a P, or two in this order, told again (at the latter; A and B alike: at B), "
                + "lines told twice or behind others than desks (at its WORD)");
        fault(3, "copy x ab; copy\n^x");
        fault(3, "likely 1 1; likely\n^1");
        fault(3, "sense a b; sense a\n^b");
        fault(3, "rhyme a b 1; rhyme a\n^b");
        fault(3, "sense a\n^a");
        fault(3, "rhyme d\n^d");
        fault(3, "lines 2;\n^lines");
        fault(3, "sense a b;\n^lines");
    }

    private static void faultFour() {
        Checks.says("4 an eleventh COPY, a seventh DESK, a 13th 'sense' or 'rhyme' (at the LINE's first WORD)");
        fault(4, many("copy #k ab;", 10) + "\n^copy");
        fault(4, many("copy #k ab;", 10) + many("desk #d swap;", 6) + "^copy");
        fault(4, many("desk #k swap;", 6) + "\n^desk");
        fault(4, many("desk #k swap;", 6) + many("copy #c ab;", 10) + "^desk");
        fault(4, pairs("sense #;", 12) + "\n^sense");
        fault(4, pairs("sense #;", 12) + pairs("rhyme # 1;", 12) + "^sense");
        fault(4, pairs("rhyme # 1;", 12) + "\n^rhyme");
        fault(4, pairs("rhyme # 1;", 12) + pairs("sense #;", 12) + "^rhyme");
    }

    private static void answers() {
        Checks.says("how many LINES; -1 less the place of a FAULT");
        is(0, "");
        is(1, "lines 2;");
        is(2, "lines 2;desk d swap;");
        fault(1, "^;");
        fault(1, " ".repeat(700) + "^" + " ".repeat(40));
        Checks.says("The tape (empty then, with a FAULT, too, here and below) is the HOUSE now");
        CopyOrders z = new CopyOrders();
        String full = "lines 3;copy x ab;copy y ab;desk d most 2;likely 1 0;likely 2 5;sense a b;rhyme a b 1;rhyme b c 2;";
        for (int i = 0; i < 3; i++) {
            due("house()", Checks.house(z, full), 9);
            int[] counts = {3, 2, 1, 6, 1, 2};
            for (int what = 0; what < counts.length; what++) {
                due("count(" + what + ")", z.count(what), counts[what]);
            }
            due("song(0)", z.song(0), 3);
            due("sense(-1)", z.sense(-1), 3);
            due("house() of nothing", Checks.house(z, ""), 0);
            int[] none = {4, 0, 0, 24, 0, 0};
            for (int what = 0; what < none.length; what++) {
                due("count(" + what + ") of nothing", z.count(what), none[what]);
            }
            due("song(0) of nothing", z.song(0), 0);
            due("sense(-1) of nothing", z.sense(-1), 24);
            due("ways(0, 6, 1) of nothing", z.ways(0, 6, 1), 1);
            due("ways(0, 2, 1) of nothing", z.ways(0, 2, 1), 1);
            due("house() of one rhyme", Checks.house(z, "rhyme a b 4;likely 1 3;"), 2);
            due("song(0) of one rhyme", z.song(0), 4);
            due("ways(0, 6, 1) of one rhyme", z.ways(0, 6, 1), 3);
        }
        Checks.says("empty then, with a FAULT, too");
        CopyOrders x = new CopyOrders();
        Checks.lay(x, "lines 2;");
        x.house();
        due("count(6)", x.count(6), 0);
        due("house() of the empty tape", x.house(), 0);
        due("count(0): a HOUSE without lines", x.count(0), 4);
        Checks.lay(x, "lines 9;");
        x.house();
        due("count(6) behind a FAULT", x.count(6), 0);
    }

    private static void stays() {
        Checks.says("it stays");
        String old = "lines 3;copy x cab;copy y ab;desk d most 2;likely 2 5;sense c a;rhyme c a 9;";
        String[] faulty = {"lines 9;", "copy z abcd;copy z abcd;", "desk p swap;desk p swap;", "likely 2 9;likely 2 9;",
            "sense a c;sense a c;", "rhyme c a 1;rhyme c a 1;", "lines 2;copy q ba;desk r swap;likely 1 0;sense a b;x",
            many("copy #k dcba;", 11), many("desk #k swap;", 7), " ".repeat(740)};
        for (String text : faulty) {
            CopyOrders x = Checks.with(old);
            Checks.sentence(x, "size=2");
            due("house() of " + text + " has a FAULT", Checks.house(x, text) < 0, true);
            int[] counts = {3, 2, 1, 6, 1, 1, 0};
            for (int what = 0; what < counts.length; what++) {
                due("count(" + what + ") behind " + text, x.count(what), counts[what]);
            }
            due("line(0, 0) behind " + text, x.line(0, 0), 2);
            due("line(1, 1) behind " + text, x.line(1, 1), 1);
            due("made(0, 0) behind " + text, x.made(0, 0), 1);
            due("fewest(0, 0, 0) behind " + text, x.fewest(0, 0, 0), 0);
            due("ways(0, 1, 1) behind " + text, x.ways(0, 1, 1), 5);
            due("ways(0, 2, 1) behind " + text, x.ways(0, 2, 1), 1);
            due("sense(0) behind " + text, x.sense(0), 3);
            due("song(4) behind " + text, x.song(4), 9);
            due("said() behind " + text, x.said(), 2);
            due("a NAME behind " + text, Checks.sentence(x, "far y=0"), 1);
            due("house() without a FAULT behind " + text, Checks.house(x, old), 7);
            due("fault() behind " + text, x.fault(), 0);
            due("count(4) without a FAULT behind " + text, x.count(4), 1);
            due("count(5) without a FAULT behind " + text, x.count(5), 1);
        }
        CopyOrders x = new CopyOrders();
        String[] pairs = {"sense e a;", "sense a e;", "sense a", "rhyme e a 1;", "rhyme a e 1;", "rhyme a b 0;",
            "likely 4 1;", "likely 1 10;", "desk d most 0;", "lines 1;", "copy x aa;"};
        for (String text : pairs) {
            due("house() of " + text + " has a FAULT", Checks.house(x, text) < 0, true);
            due("house() without a FAULT behind " + text, Checks.house(x, old), 7);
            due("sense(0) behind " + text, x.sense(0), 3);
            due("song(4) behind " + text, x.song(4), 9);
        }
    }

    private static void kinds() {
        Checks.says("The kind of the FAULT of the latest house() or sentence(); 0 without one and ahead of any.");
        CopyOrders x = new CopyOrders();
        due("ahead of any", x.fault(), 0);
        Checks.house(x, "!");
        due("of a house()", x.fault(), 1);
        due("asked again", x.fault(), 1);
        Checks.house(x, "lines 9");
        due("of the latest house()", x.fault(), 2);
        Checks.house(x, "");
        due("without one", x.fault(), 0);
        Checks.house(x, "lines 3;lines 3;");
        due("of a house()", x.fault(), 3);
        Checks.sentence(x, "whole");
        due("of a sentence() without one", x.fault(), 0);
        Checks.sentence(x, "far x<1");
        due("of a sentence()", x.fault(), 3);
        Checks.sentence(x, "has z");
        due("of the latest sentence()", x.fault(), 2);
        Checks.house(x, many("copy #k ab;", 11));
        due("of a house() behind it", x.fault(), 4);
        Checks.lay(x, 9);
        x.add();
        x.judge(0);
        x.tree();
        x.holds(0);
        due("others have no FAULT", x.fault(), 4);
    }
}
