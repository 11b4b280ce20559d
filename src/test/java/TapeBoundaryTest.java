/** Promises 1 to 3, 6 to 9 and 36 to 38: each sentence that names a boundary, at it and beyond. */
public final class TapeBoundaryTest {
    private static final int MIN = Integer.MIN_VALUE;
    private static final int MAX = Integer.MAX_VALUE;

    public static void main(String[] args) {
        newObject();
        feedOrder();
        feedRoom();
        end();
        endCutsOff();
        line();
        size();
        add();
        addTen();
        addWithoutName();
        order();
        ordersRise();
        image();
        imageKeepsAll();
        imageKeepsOrders();
        restore();
        restoreLeaves();
        count();
        countTape();
        throwing();
        Checks.finish();
    }

    private static void due(String call, long got, long want) {
        Checks.due(call, got, want);
    }

    private static void due(String call, boolean got, boolean want) {
        Checks.due(call, got, want);
    }

    /** The lines of a COPY or, with c below 0, of the order of number -1 - c, as letters. */
    private static String letters(CopyOrders x, int c, int size) {
        StringBuilder b = new StringBuilder();
        for (int i = 0; i < size; i++) {
            b.append((char) ('a' + (c < 0 ? x.order(-1 - c, i) : x.line(c, i))));
        }
        return b.toString();
    }

    private static void copyIs(CopyOrders x, int c, String lines) {
        due("size(" + c + ")", x.size(c), lines.length());
        due("COPY " + c + " is " + lines, x.size(c) == lines.length() && letters(x, c, lines.length()).equals(lines),
                true);
    }

    private static int addLines(CopyOrders x, String lines) {
        int[] bytes = new int[lines.length()];
        for (int i = 0; i < bytes.length; i++) {
            bytes[i] = lines.charAt(i) - 'a';
        }
        Checks.lay(x, bytes);
        return x.add();
    }

    private static void newObject() {
        Checks.says("A HOUSE of 4 lines, nothing else; an empty tape.");
        CopyOrders x = new CopyOrders();
        int[] counts = {4, 0, 0, 24, 0, 0, 0};
        for (int what = 0; what < counts.length; what++) {
            due("count(" + what + ")", x.count(what), counts[what]);
        }
        due("end(1)", x.end(1), false);
        due("end(0)", x.end(0), true);
        due("fault()", x.fault(), 0);
        due("said()", x.said(), -1);
        due("size(0)", x.size(0), -1);
        due("order(23, 0)", x.order(23, 0), 3);
        due("order(24, 0)", x.order(24, 0), -1);
        due("ways(0, 1, 1)", x.ways(0, 1, 1), 1);
        due("ways(0, 2, 1)", x.ways(0, 2, 1), 1);
        due("ways(0, 6, 1)", x.ways(0, 6, 1), 1);
        due("sense(-1)", x.sense(-1), 24);
        due("made(0, 0)", x.made(0, 0), -1);
        due("house() of the empty tape", x.house(), 0);
        CopyOrders other = new CopyOrders();
        Checks.house(x, "lines 2;copy x ab;");
        x.feed(1, 2, 3, 4, 5);
        due("another object: count(0)", other.count(0), 4);
        due("another object: count(1)", other.count(1), 0);
        due("another object: count(6)", other.count(6), 0);
    }

    private static void feedOrder() {
        Checks.says("Twenty bytes come behind the tape, of each number the highest first");
        CopyOrders x = new CopyOrders();
        // "copy abcdefg cdab ; " and " copy x dcba ;      "
        due("feed", x.feed(0x636f7079, 0x20616263, 0x64656667, 0x20636461, 0x62203b20), 20);
        due("feed", x.feed(0x20636f70, 0x79207820, 0x64636261, 0x203b2020, 0x20202020), 40);
        due("house()", x.house(), 2);
        copyIs(x, 0, "cdab");
        copyIs(x, 1, "dcba");
        x.feed(0x03000201, 0, 0, 0, 0);
        x.end(4);
        due("add() of d a c b", x.add(), 2);
        copyIs(x, 2, "dacb");
        // MARKS that are unlike only if all eight bits of each byte come
        x.feed(0xff7f8000, 0, 0, 0, 0);
        x.end(4);
        due("holds(9) of 255 127 128 0", x.holds(9), 1);
        x.feed(-1, -1, -1, -1, -1);
        x.end(4);
        due("holds(0) of 255 four times", x.holds(0), 1);
        x.feed(-1, -1, -1, -1, -1);
        x.end(4);
        due("holds(1) of 255 four times", x.holds(1), 0);
        x.feed(0x7fffffff, 0, 0, 0, 0);
        x.end(1);
        due("add() of 127", x.add(), -1);
    }

    private static void feedRoom() {
        Checks.says("how many it has; NONE, and none come, if it would have more than 740");
        CopyOrders x = new CopyOrders();
        for (int i = 1; i <= 37; i++) {
            due("feed " + i, x.feed(i, i, i, i, i), 20 * i);
        }
        for (int i = 0; i < 3; i++) {
            due("feed at 740", x.feed(1, 2, 3, 4, 5), -1);
            due("count(6) at 740", x.count(6), 740);
        }
        for (int at = 739; at > 720; at--) {
            due("end(" + at + ")", x.end(at), true);
            due("feed at " + at, x.feed(1, 2, 3, 4, 5), -1);
            due("count(6) at " + at, x.count(6), at);
            due("none come: end(" + (at + 1) + ")", x.end(at + 1), false);
        }
        due("end(720)", x.end(720), true);
        due("feed at 720", x.feed(0, 0, 0, 0, 0), 740);
        due("end(719)", x.end(719), true);
        due("feed at 719", x.feed(0, 0, 0, 0, 0), 739);
    }

    private static void end() {
        Checks.says("The tape has its first n bytes alone: true; false, if it has not so many, or n is below 0.");
        CopyOrders x = new CopyOrders();
        due("end(0) of none", x.end(0), true);
        due("end(1) of none", x.end(1), false);
        due("end(-1) of none", x.end(-1), false);
        x.feed(0x00010203, 0x02020202, 0, 0, 0);
        int[] bad = {21, 22, 740, MAX, -1, -20, MIN};
        for (int n : bad) {
            due("end(" + n + ")", x.end(n), false);
            due("count(6) behind it", x.count(6), 20);
        }
        due("end(20)", x.end(20), true);
        due("count(6)", x.count(6), 20);
        due("end(19)", x.end(19), true);
        due("end(20) of 19", x.end(20), false);
        due("end(2)", x.end(2), true);
        due("end(3) of 2", x.end(3), false);
        due("feed behind them", x.feed(0x03020000, 0, 0, 0, 0), 22);
        due("end(4)", x.end(4), true);
        due("add()", x.add(), 0);
        copyIs(x, 0, "abdc");
        due("end(1) when it was taken", x.end(1), false);
    }

    private static void endCutsOff() {
        Checks.says("The tape has its first n bytes alone");
        // behind the end there is what would be told as well
        CopyOrders x = new CopyOrders();
        Checks.lay(x, "copy x ab;copy y cd;");
        x.end(10);
        due("house()", x.house(), 1);
        due("count(1)", x.count(1), 1);
        Checks.lay(x, "lines 3;copy x abc;copy y bac;copy z cba;desk d swap;");
        x.house();
        Checks.lay(x, "has a or has b");
        x.end(5);
        due("sentence()", x.sentence(), 1);
        Checks.lay(x, 2, 1, 0);
        x.end(2);
        due("add()", x.add(), 3);
        copyIs(x, 3, "cb");
        Checks.lay(x, 0, 1, 2);
        x.end(2);
        due("judge(0): the third would be wrong", x.judge(0), 0);
        Checks.lay(x, 0, 1, 2);
        x.end(1);
        due("judge(0) of one", x.judge(0), -1);
        Checks.lay(x, 0, 1, 2);
        x.end(2);
        due("tree()", x.tree(), 1);
        due("from(2)", x.from(2), -1);
        Checks.lay(x, 0, 1, 1);
        x.end(2);
        due("tree(): the third would be like the second", x.tree(), 1);
        Checks.lay(x, 0, 1, 2, 3);
        x.end(3);
        due("holds(9)", x.holds(9), 1);
        Checks.lay(x, 0, 1, 2);
        x.end(2);
        due("holds(9) of two", x.holds(9), -1);
        x.end(0);
        due("add() of none", x.add(), -1);
        due("tree() of none", x.tree(), -1);
    }

    private static void line() {
        Checks.says("The line (0: a) at place i of COPY c. NoSuchElementException: no such ones.");
        CopyOrders x = Checks.with("lines 7;copy x gfedcba;copy y d;");
        for (int i = 0; i < 7; i++) {
            due("line(0, " + i + ")", x.line(0, i), 6 - i);
        }
        due("line(1, 0)", x.line(1, 0), 3);
        int[] places = {-1, 7, 8, MIN, MAX};
        for (int i : places) {
            Checks.lineThrows(x, 0, i);
        }
        Checks.lineThrows(x, 1, 1);
        Checks.lineThrows(x, 1, -1);
        int[] copies = {-1, 2, 9, 10, MIN, MAX};
        for (int c : copies) {
            Checks.lineThrows(x, c, 0);
        }
        Checks.lineThrows(new CopyOrders(), 0, 0);
        Checks.house(x, "lines 7;copy z ab;");
        Checks.lineThrows(x, 0, 2);
        Checks.lineThrows(x, 1, 0);
    }

    private static void size() {
        Checks.says("How many lines COPY c has; NONE: no such one.");
        CopyOrders x = Checks.with("lines 7;copy x gfedcba;copy y d;copy z abc;");
        int[] sizes = {7, 1, 3};
        for (int c = 0; c < sizes.length; c++) {
            due("size(" + c + ")", x.size(c), sizes[c]);
        }
        for (int c : new int[] {-1, 3, 10, MIN, MAX}) {
            due("size(" + c + ")", x.size(c), -1);
        }
        due("a new object: size(0)", new CopyOrders().size(0), -1);
    }

    private static void add() {
        Checks.says("the tape's bytes are lines (0 to N less 1, unlike, one at least): its number; NONE: not as told");
        for (int n = 2; n <= 7; n++) {
            CopyOrders x = Checks.with("lines " + n + ";");
            String all = "abcdefg".substring(0, n);
            int[][] bad = {{}, {n}, {n + 1}, {255}, {128}, {'a'}, {0, n}, {n, 0}, {0, 0}, {n - 1, n - 1},
                {n - 1, 0, n - 1}};
            for (int[] row : bad) {
                Checks.lay(x, row);
                due("add() not as told", x.add(), -1);
                due("count(1) behind it", x.count(1), 0);
                due("count(6) behind it", x.count(6), 0);
            }
            due("add() of all and one again", addLines(x, all + "a"), -1);
            due("add() of all", addLines(x, all), 0);
            copyIs(x, 0, all);
            due("add() of the last alone", addLines(x, all.substring(n - 1)), 1);
            copyIs(x, 1, all.substring(n - 1));
            due("add() of the first alone", addLines(x, "a"), 2);
            due("add() of one like another", addLines(x, all), 3);
            due("count(1)", x.count(1), 4);
            due("an empty tape", x.add(), -1);
        }
    }

    private static void addTen() {
        Checks.says("or there are 10");
        CopyOrders x = Checks.with("copy x ab;copy y cd;");
        for (int c = 2; c < 10; c++) {
            due("add() " + c, addLines(x, "dcb"), c);
            due("count(1)", x.count(1), c + 1);
        }
        due("an eleventh", addLines(x, "a"), -1);
        due("count(1)", x.count(1), 10);
        due("count(6)", x.count(6), 0);
        due("size(9)", x.size(9), 3);
        due("size(10)", x.size(10), -1);
        copyIs(x, 0, "ab");
        copyIs(x, 9, "dcb");
        StringBuilder ten = new StringBuilder();
        for (char c = 'a'; c <= 'j'; c++) {
            ten.append("copy ").append(c).append("k ab;");
        }
        x = Checks.with(ten.toString());
        due("an eleventh", addLines(x, "a"), -1);
    }

    private static void addWithoutName() {
        Checks.says("A COPY more without a NAME");
        CopyOrders x = Checks.with("copy x ab;copy y cd;");
        Checks.house(x, "copy z ab;");
        due("add()", addLines(x, "cd"), 1);
        for (String name : new String[] {"x", "y", "a", "cd"}) {
            due("its NAME is not " + name, Checks.sentence(x, "far " + name + "=0"), -5);
            due("fault()", x.fault(), 3);
        }
        due("house() with more NAMES", Checks.house(x, "copy y ab;copy x ab;"), 2);
        for (int i = 0; i < 2; i++) {
            Checks.house(x, "copy x ab;copy y cd;");
            Checks.house(x, "copy x ab;copy y cd;");
            Checks.house(x, "");
            due("add() where x was", addLines(x, "ab"), 0);
            due("add() where y was", addLines(x, "cd"), 1);
            due("no NAME x", Checks.sentence(x, "far x=0"), -5);
            due("no NAME y", Checks.sentence(x, "far y=0"), -5);
        }
    }

    private static void order() {
        Checks.says("The line at place i of ORDER x; NONE: no such ones.");
        int[] orders = {2, 6, 24, 120, 720, 5040};
        for (int n = 2; n <= 7; n++) {
            CopyOrders x = Checks.with("lines " + n + ";");
            int last = orders[n - 2] - 1;
            for (int i = 0; i < n; i++) {
                due("order(0, " + i + ") of " + n, x.order(0, i), i);
                due("order(last, " + i + ") of " + n, x.order(last, i), n - 1 - i);
            }
            for (int i : new int[] {-1, n, n + 1, MIN, MAX}) {
                due("order(0, " + i + ") of " + n, x.order(0, i), -1);
                due("order(last, " + i + ") of " + n, x.order(last, i), -1);
            }
            for (int o : new int[] {-1, last + 1, last + 2, MIN, MAX}) {
                due("order(" + o + ", 0) of " + n, x.order(o, 0), -1);
            }
        }
    }

    private static void ordersRise() {
        Checks.says("ORDERS (whole ones) are numbered from 0 as words rise (abc, acb, bac, ..).");
        int[] orders = {2, 6, 24, 120, 720, 5040};
        for (int n = 2; n <= 7; n++) {
            String before = "";
            CopyOrders x = null;
            for (int o = 0; o < orders[n - 2]; o++) {
                if (o % 70 == 0) {
                    x = Checks.with("lines " + n + ";");
                }
                String word = letters(x, -1 - o, n);
                due(word + " is behind " + before, word.compareTo(before) > 0, true);
                due(word + " is whole", word.chars().distinct().count(), n);
                before = word;
            }
        }
    }

    private static void image() {
        Checks.says("HOUSE (with COPIES added) and SENTENCE are kept in place k (0, 1): true; false: no such one.");
        CopyOrders x = Checks.with("copy x ab;");
        for (int k : new int[] {-1, 2, 3, MIN, MAX}) {
            due("image(" + k + ")", x.image(k), false);
        }
        due("image(0)", x.image(0), true);
        due("restore(1): nothing is kept there", x.restore(1), false);
        due("image(1)", x.image(1), true);
        Checks.house(x, "copy x cd;copy y dc;");
        due("image(1) anew", x.image(1), true);
        due("restore(0)", x.restore(0), true);
        due("count(1) of place 0", x.count(1), 1);
        due("restore(1)", x.restore(1), true);
        due("count(1) of place 1", x.count(1), 2);
    }

    private static void imageKeepsAll() {
        Checks.says("They are as kept in place k");
        CopyOrders x = Checks.with("lines 3;copy x cab;copy y b;copy z bca;desk d most 2;desk e drops;likely 1 4;"
                + "sense c a;rhyme c a 6;rhyme a b 1;rhyme b a 2;");
        due("add()", addLines(x, "cb"), 3);
        Checks.sentence(x, "size=2 or far y=0 and not ahead c b");
        x.image(0);
        // all that may be told otherwise
        due("add() behind it", addLines(x, "a"), 4);
        Checks.sentence(x, "not whole");
        Checks.house(x, "lines 5;copy x edcba;copy z e;copy q abcde;copy r abcde;desk d swap;desk e swap;desk f swap;"
                + "likely 1 0;likely 2 9;sense a c;sense b a;rhyme c a 9;rhyme a b 9;rhyme b a 9;");
        Checks.sentence(x, "has e and has a and has b");
        due("restore(0)", x.restore(0), true);
        int[] counts = {3, 4, 2, 6, 1, 3};
        for (int what = 0; what < counts.length; what++) {
            due("count(" + what + ")", x.count(what), counts[what]);
        }
        copyIs(x, 0, "cab");
        copyIs(x, 1, "b");
        copyIs(x, 2, "bca");
        copyIs(x, 3, "cb");
        due("DESK 0 and DESK 1: made(0, 0)", x.made(0, 0), 1);
        due("DESK 0 and DESK 1: made(0, 3)", x.made(0, 3), 2);
        // two STEPS
        due("K of DESK 0: made(0, 2)", x.made(0, 2), 1);
        due("K of DESK 0: fewest(0, 2, 0)", x.fewest(0, 2, 0), 1);
        due("between(0, 2, 2)", x.between(0, 2, 2), 2);
        due("between(0, 3, 2)", x.between(0, 3, 2), 3);
        due("W at 1", x.ways(0, 2, 1), 4);
        due("W at 2", x.ways(0, 1, 1), 1);
        due("sense(-1)", x.sense(-1), 3);
        due("sense(0)", x.sense(0), 3);
        int[] songs = {1, 0, 2, 6, 7, 2};
        for (int o = 0; o < 6; o++) {
            due("song(" + o + ")", x.song(o), songs[o]);
        }
        due("said()", x.said(), 10);
        due("a NAME", Checks.sentence(x, "ahead b a and far z=0"), 2);
        due("said() of it", x.said(), 4);
        due("image(1)", x.image(1), true);
        Checks.sentence(x, "ahead a b and far y=0");
        due("restore(1)", x.restore(1), true);
        due("said() of it again", x.said(), 4);
        due("no NAME of the later HOUSE", Checks.sentence(x, "far q=0"), -5);
        due("restore(0) once more", x.restore(0), true);
        due("said() once more", x.said(), 10);
        Checks.house(x, "");
        due("image(1) of a HOUSE without", x.image(1), true);
        due("restore(0)", x.restore(0), true);
        due("restore(1)", x.restore(1), true);
        due("said() without a SENTENCE", x.said(), -1);
        due("count(0)", x.count(0), 4);
        due("count(1)", x.count(1), 0);
        due("W at 1", x.ways(0, 6, 1), 1);
        due("sense(-1)", x.sense(-1), 24);
    }

    private static void imageKeepsOrders() {
        Checks.says("They are as kept in place k");
        String[] names = {"gfedcba", "abcdefg", "bdfaceg", "ecag", "g", "fgab", "cabgfed", "dgebcfa", "aebfcgd", "ba"};
        StringBuilder house = new StringBuilder("lines 7;");
        for (int c = 0; c < 10; c++) {
            house.append("copy k").append((char) ('a' + c)).append(' ').append(names[c]).append(';');
        }
        house.append("sense a b;sense c d;sense g a;sense e c;rhyme a b 3;rhyme b a 5;rhyme e f 7;");
        CopyOrders x = Checks.with(house.toString());
        int[] told = answers(x);
        due("image(0)", x.image(0), true);
        Checks.house(x, "lines 6;copy ka abcdef;copy kb fedcba;sense b a;");
        due("restore(0)", x.restore(0), true);
        int[] kept = answers(x);
        for (int i = 0; i < told.length; i++) {
            due("answer " + i + " of the restored HOUSE", kept[i], told[i]);
        }
        due("between(0, 1, 0)", x.between(0, 1, 0), 21);
        // c e, a c, a e are turned; b, d and f fell
        due("between(1, 3, 0)", x.between(1, 3, 0), 3);
        due("between(1, 3, 1)", x.between(1, 3, 1), 3);
        due("count(4)", x.count(4), 4);
        due("count(5)", x.count(5), 3);
        due("image(1)", x.image(1), true);
        due("restore(1)", x.restore(1), true);
        due("between(0, 1, 0)", x.between(0, 1, 0), 21);
    }

    private static int[] answers(CopyOrders x) {
        int[] row = new int[130];
        for (int i = 0; i < 100; i++) {
            row[i] = x.between(i / 10, i % 10, 2);
        }
        for (int c = 0; c < 10; c++) {
            row[100 + c] = x.mended(c, 0);
            row[110 + c] = x.better(c, 4);
            row[120 + c] = x.woven(0, 1, c);
        }
        return row;
    }

    private static void restore() {
        Checks.says("false: no such one, or nothing is kept there");
        CopyOrders x = Checks.with("copy x ab;");
        for (int k : new int[] {-1, 0, 1, 2, MIN, MAX}) {
            due("restore(" + k + ") of none", x.restore(k), false);
            due("count(1) behind it", x.count(1), 1);
        }
        x.image(1);
        Checks.house(x, "");
        due("restore(0), nothing kept", x.restore(0), false);
        due("count(1) behind it", x.count(1), 0);
        due("restore(2)", x.restore(2), false);
        due("restore(-1)", x.restore(-1), false);
        due("restore(1)", x.restore(1), true);
        due("count(1) behind it", x.count(1), 1);
        Checks.house(x, "lines 9;");
        due("restore(1) behind a FAULT", x.restore(1), true);
        due("fault() stays", x.fault(), 2);
    }

    private static void restoreLeaves() {
        Checks.says("(the tape, and what other calls told last, stays)");
        CopyOrders x = Checks.with("copy x bacd;copy y acbd;copy z abdc;");
        x.image(0);
        Checks.house(x, "copy x abcd;copy y bacd;copy z badc;");
        Checks.lay(x, 0, 1, 2);
        due("tree()", x.tree(), 2);
        due("likeliest()", x.likeliest(0, 1, 1, 0), 6);
        Checks.sentence(x, "has zz");
        Checks.lay(x, 2, 1, 0);
        due("restore(0)", x.restore(0), true);
        due("the tape: count(6)", x.count(6), 3);
        due("fault()", x.fault(), 2);
        due("likely()", x.likely(), 1);
        due("from(1)", x.from(1), 0);
        due("from(2)", x.from(2), 1);
        due("missing(0) of the restored ones", x.missing(0), 0);
        due("missing(1) of the restored ones", x.missing(1), 3);
        due("the tape: add()", x.add(), 3);
        copyIs(x, 3, "cba");
    }

    private static void count() {
        Checks.says("0 N, 1 COPIES, 2 DESKS, 3 ORDERS, 4 'sense', 5 'rhyme', 6 bytes of the tape. NONE for another what.");
        CopyOrders x = Checks.with("lines 5;copy x ab;copy y c;desk d swap;desk e swap;desk f swap;sense a b;sense a c;"
                + "sense a d;sense a e;rhyme a b 1;");
        x.feed(0, 0, 0, 0, 0);
        x.end(9);
        int[] counts = {5, 2, 3, 120, 4, 1, 9};
        for (int what = 0; what < counts.length; what++) {
            due("count(" + what + ")", x.count(what), counts[what]);
        }
        for (int what : new int[] {-1, -2, 7, 8, MIN, MAX}) {
            due("count(" + what + ")", x.count(what), -1);
        }
    }

    private static void countTape() {
        Checks.says("The tape (empty then, with a FAULT, too, here and below)");
        for (int call = 0; call < 16; call++) {
            CopyOrders x = Checks.with("lines 3;copy x abc;copy y bac;desk d swap;");
            int[] rows = {0, 1};
            Checks.lay(x, rows);
            switch (call) {
                case 0: x.house(); break;
                case 1: x.sentence(); break;
                case 2: due("add()", x.add(), 2); break;
                case 3: due("judge(0)", x.judge(0), 0); break;
                case 4: due("tree()", x.tree(), 1); break;
                case 5: due("holds(0)", x.holds(0), -1); break;
                case 6: Checks.lay(x, 0, 0); due("add()", x.add(), -1); break;
                case 7: Checks.lay(x, 0, 9); due("judge(0)", x.judge(0), -1); break;
                case 8: due("judge(1)", x.judge(1), -1); break;
                case 9: Checks.lay(x, 0, 0); due("tree()", x.tree(), -1); break;
                case 10: Checks.lay(x, 0, 1, 2); due("holds(0)", x.holds(0), 1); break;
                case 11: Checks.lay(x, 0, 1, 2); due("holds(10)", x.holds(10), -1); break;
                case 12: due("sentence()", Checks.sentence(x, "whole"), 1); break;
                case 13: due("house()", Checks.house(x, "lines 2;"), 1); break;
                case 14: due("house()", Checks.house(x, "lines 9;"), -7); break;
                default: due("sentence()", Checks.sentence(x, "has z"), -5); break;
            }
            due("count(6) behind call " + call, x.count(6), 0);
        }
        Checks.says("bytes of the tape");
        CopyOrders x = Checks.with("lines 3;copy x abc;copy y bac;desk d swap;");
        Checks.lay(x, 0, 1);
        x.between(0, 1, 0);
        x.nearest(0, 0);
        x.missing(0);
        x.marks(1);
        x.said();
        x.image(0);
        x.restore(0);
        due("others leave the tape", x.count(6), 2);
    }

    private static void throwing() {
        Checks.says("A call that throws changes nothing.");
        CopyOrders x = Checks.with("lines 3;copy x abc;copy y bac;likely 1 0;likely 2 0;");
        Checks.sentence(x, "far x=0");
        Checks.lay(x, 1, 0);
        x.tree();
        x.likeliest(0, 0, 0, 0);
        Checks.lay(x, 2, 1, 0);
        for (int i = 0; i < 4; i++) {
            Checks.lineThrows(x, 2, 0);
            Checks.lineThrows(x, 0, 3);
            Checks.alongThrows(x, 6, 0, 0);
            Checks.alongThrows(x, 0, 11, 0);
            Checks.alongThrows(x, 0, 1, 0);
            Checks.alongThrows(x, 0, 0, 2);
            due("count(1)", x.count(1), 2);
            due("count(6)", x.count(6), 3);
            due("said()", x.said(), 1);
            due("fault()", x.fault(), 0);
            due("from(1)", x.from(1), 1);
            due("likely()", x.likely(), 1);
            due("line(1, 0)", x.line(1, 0), 1);
        }
        due("add() of the tape", x.add(), 2);
        copyIs(x, 2, "cba");
    }
}
