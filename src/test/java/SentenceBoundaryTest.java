/** SENTENCES (promises 34 and 35): each sentence of the document that names a boundary, at it and beyond. */
public final class SentenceBoundaryTest {
    private static final String COPIES = "xyzwvu";
    /** FAR from x: 0 3 1 3 4 6; STEPS from x: 0 3 1 0 1 0; songs: 5 4 2 5 2 0. */
    private static final String THREE = "lines 3;copy x abc;copy y cba;copy z bac;copy w ab;copy v cb;copy u c;"
            + "desk s swap;sense b c;rhyme a b 5;rhyme c b 2;rhyme b a 2;";
    private static final String[] NO_ONES = {"lines", "copy", "desk", "swap", "most", "drops", "likely", "sense",
        "rhyme", "or", "and", "x", "a", "wholes", "0", "12", ";", "<", "=", ">", ")", ".", "!"};
    private static final String[] RESERVED = {"lines", "copy", "desk", "swap", "most", "drops", "likely",
        "sense", "rhyme", "or", "and", "not", "whole", "holds", "has", "ahead", "far", "steps", "song", "size"};

    public static void main(String[] args) {
        length();
        lengthAndTokens();
        tokens();
        conditions();
        nots();
        brackets();
        wholeAndHolds();
        has();
        ahead();
        farAndSteps();
        copiesByName();
        songAndSize();
        signs();
        numbers();
        ones();
        within();
        faultOne();
        otherFaults();
        firstAndLeast();
        addedLater();
        newHouse();
        answers();
        stays();
        said();
        Checks.finish();
    }

    private static void due(String call, long got, long want) {
        Checks.due(call, got, want);
    }

    private static void fault(int kind, String marked) {
        Checks.sentenceFault(THREE, kind, marked);
    }

    /** A SENTENCE has so many ONES, and may be said of these COPIES of THREE. */
    private static void is(int ones, String names, String text) {
        CopyOrders x = Checks.with(THREE);
        due("sentence() of " + text, Checks.sentence(x, text), ones);
        due("fault() of " + text, x.fault(), 0);
        int bits = 0;
        for (int i = 0; i < names.length(); i++) {
            bits |= 1 << COPIES.indexOf(names.charAt(i));
        }
        due("said() of " + text, x.said(), bits);
        due("count(6) behind " + text, x.count(6), 0);
    }

    private static void length() {
        Checks.says("A SENTENCE is a text of at most 200 bytes");
        is(1, "xyz", "whole" + " ".repeat(194));
        is(1, "xyz", "whole" + " ".repeat(195));
        fault(1, "whole" + " ".repeat(195) + "^ ");
        fault(1, "whole" + " ".repeat(195) + "^" + " ".repeat(540));
        is(1, "xyz", " ".repeat(195) + "whole");
        fault(1, " ".repeat(200) + "^whole");
        fault(1, " ".repeat(200) + "^");
    }

    private static void lengthAndTokens() {
        Checks.says("if there are more and no FAULT is ahead: TOKENS that begin ahead of it are read whole");
        fault(1, " ".repeat(196) + "whol^e");
        fault(1, " ".repeat(199) + "w^hole");
        fault(1, " ".repeat(199) + "^wholes");
        fault(2, " ".repeat(195) + "has ^ab");
        is(1, "xyzw", " ".repeat(195) + "has a");
        fault(1, " ".repeat(195) + "has a^ ");
        fault(3, " ".repeat(195) + "far ^xx<1");
        fault(1, " ".repeat(194) + "size=1^0");
        fault(1, " ".repeat(194) + "size=^100");
        fault(1, "^x" + " ".repeat(300));
        fault(1, "whole ^whole" + " ".repeat(300));
        fault(2, "has ^d" + " ".repeat(300));
    }

    private static void tokens() {
        Checks.says("with blanks (32, 10) between them or not");
        is(1, "xyzw", "\nhas\n a \n");
        is(4, "xyz", "(not(size<3))");
        is(4, "xyz", " ( not\n(\nsize < 3 )\n)");
        for (int b : new int[] {0, 9, 11, 13, 31, 33, 127, 160, 255}) {
            fault(1, "^" + (char) b + "whole");
            fault(1, "has^" + (char) b + "a");
            fault(1, "whole^" + (char) b);
        }
        Checks.says("what is not as told is no TOKEN");
        fault(1, "^wholenes");
        fault(1, "^whole1");
        fault(1, "^size1<2");
        fault(1, "has ^a1");
        fault(1, "size<^1a");
        fault(1, "size<^a1");
        fault(1, "far ^x1<1");
        fault(1, "^WHOLE");
        fault(1, "has ^A");
    }

    private static void conditions() {
        Checks.says("COND: ALL { 'or' ALL }");
        is(1, "xyz", "whole");
        is(2, "xyzu", "whole or size=1");
        is(3, "xyzwu", "whole or size=1 or song=5");
        fault(1, "^or");
        fault(1, "^or whole");
        fault(1, "whole or^");
        fault(1, "whole or ^or whole");
        fault(1, "whole or ^and whole");
        fault(1, "whole ^whole");
        Checks.says("ALL: ONE { 'and' ONE }");
        is(2, "xz", "whole and ahead a c");
        is(3, "z", "has b and ahead a c and song=2");
        is(3, "yu", "size=1 or whole and ahead c a");
        is(3, "yu", "whole and ahead c a or size=1");
        // x by song 5 and c; u by its size; z and v by song 2
        is(4, "xzvu", "size=1 or has c and song=5 or song=2");
        is(4, "xwu", "has a and song=5 or has c and size=1");
        fault(1, "^and");
        fault(1, "^and whole");
        fault(1, "whole and^");
        fault(1, "whole and ^and whole");
        fault(1, "whole and ^or whole");
    }

    private static void nots() {
        Checks.says("'not' ONE");
        is(2, "wvu", "not whole");
        is(3, "xyz", "not not whole");
        is(3, "wv", "not whole and has b");
        is(3, "xwvu", "not whole or far x=0");
        is(3, "wvu", "not (whole)");
        is(4, "v", "not (whole or holds)");
        is(4, "yv", "(not (holds))");
        fault(1, "not^");
        fault(1, "not ^and");
        fault(1, "not ^)");
        fault(1, "whole ^not whole");
    }

    private static void brackets() {
        Checks.says("( COND )");
        is(2, "xyz", "(whole)");
        is(3, "xyz", "((whole))");
        is(4, "y", "(size=1 or whole) and ahead c a");
        is(4, "y", "ahead c a and (size=1 or whole)");
        fault(1, "(^");
        fault(1, "(^)");
        fault(1, "(whole^");
        fault(1, "((whole)^");
        fault(1, "(whole ^whole)");
        fault(1, "(whole or^)");
        fault(1, "whole^)");
        fault(1, "(whole)^)");
        fault(1, "(whole)^(whole)");
    }

    private static void wholeAndHolds() {
        Checks.says("'whole' | 'holds' (SENSE)");
        is(1, "xyz", "whole");
        // w and u have not both lines of the 'sense'
        is(1, "xzwu", "holds");
        fault(1, "whole ^a");
        fault(1, "holds ^b");
        CopyOrders x = Checks.with("lines 2;copy x ab;copy y a;copy z ba;");
        Checks.sentence(x, "whole");
        due("whole of two lines", x.said(), 5);
        Checks.sentence(x, "holds");
        due("holds without 'sense'", x.said(), 7);
        x = Checks.with("lines 2;copy x ab;copy y a;copy z ba;sense a b;sense b a;");
        Checks.sentence(x, "holds");
        due("holds against one another", x.said(), 2);
    }

    private static void has() {
        Checks.says("L, M: WORDS of one letter (one of the first N: 2)");
        for (int n = 2; n <= 7; n++) {
            char last = "abcdefg".charAt(n - 1);
            char beyond = "abcdefgh".charAt(n);
            String house = "lines " + n + ";copy x " + last + ";copy y a;";
            CopyOrders x = Checks.with(house);
            due("sentence() has " + last, Checks.sentence(x, "has " + last), 1);
            due("said() has " + last, x.said(), 1);
            due("sentence() ahead " + last, Checks.sentence(x, "ahead " + last + " " + last), 1);
            Checks.sentenceFault(house, 2, "has ^" + beyond);
            Checks.sentenceFault(house, 2, "ahead a ^" + beyond);
            Checks.sentenceFault(house, 2, "ahead ^" + beyond + " a");
        }
        is(1, "xyzw", "has a");
        is(1, "xyzvu", "has c");
        fault(2, "has ^z");
        fault(2, "has ^ab");
        fault(2, "has ^aa");
        fault(2, "has ^whole");
        fault(1, "has^");
        fault(1, "has ^1");
        fault(1, "has ^(");
        fault(1, "has a ^b");
    }

    private static void ahead() {
        Checks.says("'ahead' L M (it has both, L ahead of M)");
        is(1, "xw", "ahead a b");
        is(1, "yz", "ahead b a");
        is(1, "xz", "ahead a c");
        is(1, "y", "ahead c a");
        is(1, "yv", "ahead c b");
        is(1, "xz", "ahead b c");
        is(1, "", "ahead a a");
        fault(2, "ahead ^d a");
        fault(2, "ahead a ^d");
        fault(2, "ahead ^d d");
        fault(2, "ahead a ^bc");
        fault(1, "ahead^");
        fault(1, "ahead a^");
        fault(1, "ahead a ^1");
        fault(1, "ahead a b ^c");
    }

    private static void farAndSteps() {
        Checks.says("'far' NAME | 'steps' NAME");
        is(1, "x", "far x=0");
        is(1, "z", "far x=1");
        is(1, "yw", "far x=3");
        is(1, "v", "far x=4");
        is(1, "u", "far x=6");
        is(1, "v", "far w=6");
        is(1, "u", "far w=9");
        is(1, "xwu", "steps x=0");
        is(1, "zv", "steps x=1");
        is(1, "y", "steps x=3");
        is(1, "xyzwvu", "steps u=0");
        fault(1, "far^");
        fault(1, "far x^");
        fault(1, "far x ^3");
        fault(1, "steps^");
        fault(1, "steps ^<3");
    }

    private static void copiesByName() {
        Checks.says("3 (no COPY of that NAME)");
        fault(3, "far ^q<1");
        fault(3, "steps ^q<1");
        fault(3, "far ^xx<1");
        fault(3, "far ^abcdefg<1");
        fault(3, "far ^s<1");
        fault(3, "steps ^s");
        fault(1, "far ^1<1");
        for (String word : RESERVED) {
            fault(1, "far ^" + word + "<1");
        }
        CopyOrders x = Checks.with("copy p ab;copy q cd;");
        Checks.house(x, "copy r ab;");
        due("a NAME of the HOUSE ahead", Checks.sentence(x, "far q<1"), -5);
        due("fault()", x.fault(), 3);
        due("a NAME of the HOUSE now", Checks.sentence(x, "far r<1"), 1);
        x = new CopyOrders();
        due("without COPIES", Checks.sentence(x, "steps x<1"), -7);
        due("fault()", x.fault(), 3);
    }

    private static void songAndSize() {
        Checks.says("'song' | 'size'");
        is(1, "xw", "song=5");
        is(1, "y", "song=4");
        is(1, "zv", "song=2");
        is(1, "u", "song=0");
        is(1, "xyz", "size=3");
        is(1, "wv", "size=2");
        is(1, "u", "size=1");
        is(1, "", "size=0");
        fault(1, "song^");
        fault(1, "size^");
        fault(1, "song ^x<1");
        fault(1, "size ^5");
    }

    private static void signs() {
        Checks.says("SIGN: < = >");
        is(1, "wvu", "size<3");
        is(1, "xyz", "size=3");
        is(1, "", "size>3");
        is(1, "u", "size<2");
        is(1, "xyz", "size>2");
        is(1, "xyzwvu", "size<4");
        is(1, "xz", "far x<3");
        is(1, "vu", "far x>3");
        for (char sign : ";().,:?".toCharArray()) {
            fault(1, "size^" + sign + "3");
        }
        fault(1, "size<^=3");
        fault(1, "size=^=3");
        fault(1, "size ^has a");
    }

    private static void numbers() {
        Checks.says("NUMBERS: 1 to 2 digits");
        is(1, "xyzwvu", "size>0");
        is(1, "xyzwvu", "size>00");
        is(1, "u", "size=01");
        is(1, "", "size>99");
        is(1, "xyzwvu", "size<99");
        fault(1, "size=^100");
        fault(1, "size=^000");
        fault(1, "size=^");
        fault(1, "size=^x");
        fault(1, "size=^;");
        CopyOrders x = Checks.with("rhyme a b 99;rhyme b c 99;copy x abcd;copy y ab;copy z ba;");
        Checks.sentence(x, "song>99");
        due("song>99", x.said(), 1);
        Checks.sentence(x, "song=99");
        due("song=99", x.said(), 2);
        Checks.sentence(x, "song<99");
        due("song<99", x.said(), 4);
    }

    private static void ones() {
        Checks.says("20 ONES");
        String nineteen = "whole or ".repeat(19);
        is(19, "xyz", nineteen.substring(0, 9 * 18) + "whole");
        is(20, "xyz", nineteen + "whole");
        is(20, "xyzu", nineteen + "size=1");
        fault(4, nineteen + "whole or ^whole");
        is(20, "xyzwvu", nineteen.substring(9) + "not whole");
        is(20, "xyz", nineteen.substring(9) + "(whole)");
        is(20, "wvu", "not whole and ".repeat(9) + "not whole");
        is(20, "xyz", "(whole)or".repeat(9) + "(whole)");
        Checks.says("4 a 21st ONE, a ninth within (at its first TOKEN)");
        fault(4, nineteen + "not ^whole");
        fault(4, nineteen + "(^whole)");
        fault(4, nineteen + "(^(whole))");
        fault(4, nineteen + "whole and ^not whole");
        fault(4, "not whole and ".repeat(10) + "^has z");
        fault(4, "(whole)or".repeat(10) + "^(whole)");
        fault(4, nineteen + "whole or ^far");
        fault(1, nineteen + "whole or ^x");
        fault(1, nineteen + "whole or^");
        fault(1, "whole and ".repeat(19) + "whole and^");
        fault(1, "whole and ".repeat(19) + "whole and ^or");
        fault(1, nineteen + "whole ^whole");
    }

    private static void within() {
        Checks.says("8 within one another");
        is(7, "xyz", "not not not not not not whole");
        is(8, "wvu", "not not not not not not not whole");
        fault(4, "not not not not not not not not ^whole");
        is(8, "xyz", "(((((((whole)))))))");
        is(8, "xyz", "not (not (not (not whole)))");
        fault(4, "(not (not (not (not ^whole))))");
        fault(4, "((((((((^whole))))))))");
        is(16, "xyz", "(((((((whole))))))) and (((((((whole)))))))");
        is(10, "xyz", "(((((((whole or whole and holds)))))))");
        is(16, "wvu", "not not not not not not not whole and not not not not not not not whole");
        Checks.says("a ninth within (at its first TOKEN)");
        fault(4, "(((((((not ^whole)))))))");
        fault(4, "not not not not not not not (^whole)");
        fault(4, "((((((((^(whole)))))))))");
        fault(4, "((((((((^not whole))))))))");
        fault(4, "whole or ((((((((^has z");
        fault(1, "((((((((^)");
        fault(1, "((((((((^");
        fault(1, "((((((((^x");
    }

    private static void faultOne() {
        Checks.says("1 no TOKEN, or one that can't come (at it; the end: how many bytes there are");
        String[] tokens = {"not", "(", "whole", "and", "has", "a", ")", "or", "far", "x", "<", "3", "and", "song",
            "=", "5", "or", "ahead", "a", "b"};
        int[] ones = {0, 0, 0, 0, 0, 0, 4, 0, 0, 0, 0, 5, 0, 0, 0, 6, 0, 0, 0, 7};
        StringBuilder text = new StringBuilder();
        for (int i = 0; i < tokens.length; i++) {
            text.append(tokens[i]);
            if (ones[i] > 0) {
                CopyOrders x = Checks.with(THREE);
                due("sentence() of " + text, Checks.sentence(x, text.toString()), ones[i]);
            } else {
                fault(1, text + "^");
                fault(1, text + " \n ^");
            }
            fault(1, text + " ^!");
            fault(1, text + " ^;");
            text.append(' ');
        }
        fault(1, "^");
        fault(1, " \n ^");
        for (String token : NO_ONES) {
            fault(1, "^" + token);
            fault(1, "not ^" + token);
            fault(1, "whole or ^" + token);
        }
    }

    private static void otherFaults() {
        Checks.says("(one of the first N: 2)");
        fault(2, "whole and has  ^d or whole");
        fault(2, "whole or ahead\n^d a");
        fault(2, "whole or ahead a\n^d");
        Checks.says("FAULTS: 1, 2, 3 (no COPY of that NAME)");
        fault(3, "whole and far  ^d < 1");
        fault(3, "not steps\n^abc > 1");
    }

    private static void firstAndLeast() {
        Checks.says("FAULTS, the first along the text");
        fault(2, "has ^d and far zz<1 )");
        fault(3, "far ^zz<1 and has d )");
        fault(1, "whole ^) and has d and far zz<1");
        fault(2, "ahead ^d e");
        fault(4, "whole or ".repeat(20) + "^has d");
        fault(2, "whole or ".repeat(18) + "has ^d or whole");
        Checks.says("of one TOKEN the least");
        fault(1, "whole or ".repeat(20) + "^)");
        fault(1, "not not not not not not not not ^x");
    }

    private static void addedLater() {
        Checks.says("It is said of COPIES, of those added later, too (by their numbers at the time it is told)");
        CopyOrders x = Checks.with("lines 3;copy x abc;copy y cba;");
        due("sentence()", Checks.sentence(x, "far y<1 or size=1"), 2);
        due("said()", x.said(), 2);
        int[][] rows = {{0, 1, 2}, {2, 1, 0}, {1}, {2, 1}};
        int[] bits = {2, 10, 26, 26};
        for (int i = 0; i < rows.length; i++) {
            Checks.lay(x, rows[i]);
            due("add()", x.add(), 2 + i);
            due("said() of " + (3 + i) + " COPIES", x.said(), bits[i]);
        }
        for (int c = 6; c < 10; c++) {
            Checks.lay(x, 0);
            x.add();
        }
        due("said() of ten COPIES", x.said(), 26 + 64 + 128 + 256 + 512);
        due("sentence() anew", Checks.sentence(x, "has a or not has a"), 3);
        due("said() of ten COPIES", x.said(), 1023);
    }

    private static void newHouse() {
        Checks.says("A new HOUSE has no SENTENCE.");
        CopyOrders x = Checks.with(THREE);
        due("sentence()", Checks.sentence(x, "whole"), 1);
        due("said()", x.said(), 7);
        due("house()", Checks.house(x, THREE), 12);
        due("said() in the new HOUSE", x.said(), -1);
        due("house()", Checks.house(x, THREE), 12);
        due("said() in one more", x.said(), -1);
        due("sentence()", Checks.sentence(x, "has a"), 1);
        due("house() with a FAULT", Checks.house(x, "lines 9;"), -7);
        due("said() in the HOUSE that stays", x.said(), 15);
    }

    private static void answers() {
        Checks.says("how many ONES (each not, bracket and other one)");
        is(1, "xyz", "whole");
        is(2, "wvu", "not whole");
        is(2, "xyz", "(whole)");
        is(5, "wvu", "not (not not whole)");
        is(2, "x", "song=5 and size=3");
        Checks.says("-1 less the place of a FAULT");
        fault(1, "^");
        fault(1, " ^)");
        fault(1, " ".repeat(200) + "^ ");
    }

    private static void stays() {
        Checks.says("-1 less the place of a FAULT: it stays");
        String[] faulty = {"", "!", "not whole and has d", "size=1 or far zz<1", "not whole or", "(not whole",
            "not not not not not not not not whole", "whole or ".repeat(20) + "whole", " ".repeat(201)};
        for (String text : faulty) {
            CopyOrders x = Checks.with(THREE);
            Checks.sentence(x, "whole and has a or ahead c b and size=2");
            due("sentence() of '" + text + "' has a FAULT", Checks.sentence(x, text) < 0 ? 1 : 0, 1);
            due("said() behind '" + text + "'", x.said(), 23);
            due("count(1) behind '" + text + "'", x.count(1), 6);
            due("count(6) behind '" + text + "'", x.count(6), 0);
        }
        CopyOrders x = Checks.with(THREE);
        Checks.sentence(x, "whole");
        Checks.sentence(x, "not whole");
        due("without a FAULT it is the SENTENCE now", x.said(), 56);
        Checks.says("The tape is the SENTENCE now");
        for (int i = 0; i < 30; i++) {
            due("20 ONES", Checks.sentence(x, "whole or ".repeat(19) + "size=1"), 20);
            due("said() of them", x.said(), 39);
            due("a FAULT", Checks.sentence(x, "whole and ".repeat(15) + "size"), -155);
            due("said() of those ahead", x.said(), 39);
            due("one", Checks.sentence(x, "size=2"), 1);
            due("said() of it", x.said(), 24);
        }
    }

    private static void said() {
        Checks.says("The COPIES of which it may be said, as bits; NONE: there is no SENTENCE.");
        CopyOrders x = new CopyOrders();
        due("ahead of any", x.said(), -1);
        Checks.sentence(x, "whole or");
        due("behind a FAULT alone", x.said(), -1);
        due("sentence()", Checks.sentence(x, "whole or not whole"), 3);
        due("of no COPIES", x.said(), 0);
        x = Checks.with(THREE);
        due("in a HOUSE without", x.said(), -1);
        is(1, "", "size>3");
        is(1, "xyzwvu", "size<4");
    }
}
