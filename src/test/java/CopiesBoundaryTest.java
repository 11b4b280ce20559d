/** Promises 10 to 18: each sentence that names a boundary, at it and beyond, with answers worked out by hand. */
public final class CopiesBoundaryTest {
    private static final int MIN = Integer.MIN_VALUE;
    private static final int MAX = Integer.MAX_VALUE;
    /** Ten orders of five lines: COPY c is c STEPS from COPY 0. */
    private static final String RISING = "lines 5;copy ka abcde;copy kb bacde;copy kc bcade;copy kd bcdae;"
            + "copy ke bcdea;copy kf cbdea;copy kg cdbea;copy kh cdeba;copy ki dceba;copy kj decba;";

    public static void main(String[] args) {
        steps();
        fallen();
        far();
        between();
        swap();
        most();
        drops();
        made();
        fewestBySwap();
        fewestByMost();
        fewestByDrops();
        fewest();
        justByEach();
        just();
        judge();
        judgeNotAsTold();
        nearestInSum();
        nearestInWorst();
        nearest();
        tree();
        treeOfLikeOnes();
        treeNotAsTold();
        from();
        missing();
        missingFirst();
        missingNow();
        missingNone();
        Checks.finish();
    }

    private static void due(String call, long got, long want) {
        Checks.due(call, got, want);
    }

    private static int judge(CopyOrders x, int d, int... row) {
        Checks.lay(x, row);
        return x.judge(d);
    }

    private static int tree(CopyOrders x, int... row) {
        Checks.lay(x, row);
        return x.tree();
    }

    /** What between() tells of COPY 0 and COPY 1 of a HOUSE, both ways. */
    private static void betweenIs(String house, int steps, int fallen) {
        CopyOrders x = Checks.with(house);
        for (int a = 0; a < 2; a++) {
            due("STEPS in " + house, x.between(a, 1 - a, 0), steps);
            due("FALLEN in " + house, x.between(a, 1 - a, 1), fallen);
            due("FAR in " + house, x.between(a, 1 - a, 2), steps + 3 * fallen);
            due("STEPS to itself in " + house, x.between(a, a, 0), 0);
            due("FAR to itself in " + house, x.between(a, a, 2), 0);
        }
    }

    private static void steps() {
        Checks.says("pairs of lines that both have, and that do not come in the same order in both");
        betweenIs("copy x abcd;copy y abcd;", 0, 0);
        betweenIs("copy x abcd;copy y abdc;", 1, 0);
        betweenIs("copy x abcd;copy y dcba;", 6, 0);
        betweenIs("lines 2;copy x ab;copy y ba;", 1, 0);
        betweenIs("lines 7;copy x abcdefg;copy y gfedcba;", 21, 0);
        betweenIs("lines 7;copy x abcdefg;copy y bcdefga;", 6, 0);
        betweenIs("copy x ac;copy y ca;", 1, 0);
        // no pair that both have
        betweenIs("copy x ba;copy y cd;", 0, 4);
        betweenIs("copy x dcba;copy y a;", 0, 3);
        betweenIs("copy x dba;copy y abc;", 1, 2);
        CopyOrders x = Checks.with("copy x abcd;copy y abcd;");
        for (int i = 0; i < 3; i++) {
            Checks.house(x, "copy x abcd;copy y dcba;");
            due("where others were, longer", x.between(0, 1, 0), 6);
            Checks.house(x, "copy x d;copy y dcba;");
            due("where longer ones were", x.between(0, 1, 0), 0);
            Checks.house(x, "copy x ba;copy y dc;");
            Checks.house(x, "copy x ca;copy y abc;");
            due("where other lines were", x.between(0, 1, 0), 1);
        }
    }

    private static void fallen() {
        Checks.says("FALLEN: lines that one of them has not");
        betweenIs("copy x abcd;copy y abd;", 0, 1);
        betweenIs("lines 7;copy x abcdefg;copy y d;", 0, 6);
        betweenIs("lines 7;copy x abc;copy y defg;", 0, 7);
        betweenIs("copy x a;copy y d;", 0, 2);
        // d is in neither
        betweenIs("copy x abc;copy y ab;", 0, 1);
        betweenIs("lines 7;copy x a;copy y a;", 0, 0);
    }

    private static void far() {
        Checks.says("FAR: STEPS and three times FALLEN.");
        betweenIs("copy x abc;copy y dcb;", 1, 2);
        betweenIs("lines 7;copy x abcdef;copy y gfedcb;", 10, 2);
        CopyOrders x = Checks.with("copy x abc;copy y dcb;");
        due("between(0, 1, 2)", x.between(0, 1, 2), 7);
    }

    private static void between() {
        Checks.says("STEPS of two COPIES (what 0), FALLEN (1), FAR (2). NONE: no such ones.");
        CopyOrders x = Checks.with("copy x abcd;copy y dcb;");
        for (int what : new int[] {-1, 3, 4, MIN, MAX}) {
            due("between(0, 1, " + what + ")", x.between(0, 1, what), -1);
        }
        for (int c : new int[] {-1, 2, 10, MIN, MAX}) {
            for (int what = 0; what < 3; what++) {
                due("between(" + c + ", 0, " + what + ")", x.between(c, 0, what), -1);
                due("between(0, " + c + ", " + what + ")", x.between(0, c, what), -1);
                due("between(" + c + ", " + c + ", " + what + ")", x.between(c, c, what), -1);
            }
        }
    }

    /** Whether the one DESK of a HOUSE may have made COPY 1 from COPY 0, asked in three ways. */
    private static void mayMake(String house, int may) {
        CopyOrders x = Checks.with(house);
        due("made(0, 1) in " + house, x.made(0, 1), may);
        due("judge(0) in " + house, judge(x, 0, 0, 1), 1 - may);
    }

    private static void swap() {
        Checks.says("by swap, if it has the same lines and STEPS are 1");
        mayMake("copy x abcd;copy y abcd;desk d swap;", 0);
        mayMake("copy x abcd;copy y acbd;desk d swap;", 1);
        mayMake("copy x abcd;copy y badc;desk d swap;", 0);
        mayMake("copy x abcd;copy y bcad;desk d swap;", 0);
        mayMake("copy x bd;copy y db;desk d swap;", 1);
        mayMake("copy x abcd;copy y ba;desk d swap;", 0);
        mayMake("copy x ba;copy y abcd;desk d swap;", 0);
        mayMake("copy x abc;copy y bad;desk d swap;", 0);
    }

    private static void most() {
        Checks.says("by most K, if it has the same lines and STEPS are K at most");
        for (int k = 1; k <= 9; k++) {
            CopyOrders x = Checks.with(RISING + "desk d most " + k + ";");
            for (int c = 0; c < 10; c++) {
                due("made(0, " + c + ") by most " + k, x.made(0, c), c <= k ? 1 : 0);
                due("made(" + c + ", 0) by most " + k, x.made(c, 0), c <= k ? 1 : 0);
            }
        }
        // ten STEPS
        mayMake("lines 5;copy x abcde;copy y edcba;desk d most 9;", 0);
        mayMake("lines 5;copy x abcde;copy y edcab;desk d most 9;", 1);
        mayMake("copy x bd;copy y db;desk d most 1;", 1);
        mayMake("copy x b;copy y b;desk d most 1;", 1);
        mayMake("copy x abcd;copy y abc;desk d most 9;", 0);
        mayMake("copy x abc;copy y abcd;desk d most 9;", 0);
        mayMake("copy x abc;copy y abd;desk d most 9;", 0);
    }

    private static void drops() {
        Checks.says("by drops, if it has all its lines but one, in their order");
        for (String y : "bcd,acd,abd,abc".split(",")) {
            mayMake("copy x abcd;copy y " + y + ";desk d drops;", 1);
        }
        for (String y : "abcd,ab,a,acb,bac,dcb,bacd".split(",")) {
            mayMake("copy x abcd;copy y " + y + ";desk d drops;", 0);
        }
        mayMake("copy x ab;copy y b;desk d drops;", 1);
        mayMake("copy x ab;copy y c;desk d drops;", 0);
        mayMake("copy x abc;copy y ad;desk d drops;", 0);
        mayMake("copy x a;copy y a;desk d drops;", 0);
        mayMake("copy x abc;copy y abcd;desk d drops;", 0);
        mayMake("lines 7;copy x gfedcba;copy y gfecba;desk d drops;", 1);
    }

    private static void made() {
        Checks.says("DESKS that may have made COPY b from COPY a at once, as bits; NONE: no such ones.");
        CopyOrders x = Checks.with("copy x abcd;copy y bacd;");
        due("without DESKS", x.made(0, 1), 0);
        x = Checks.with("copy x abcd;copy y bacd;copy z abc;desk k swap;desk l most 1;desk m most 2;desk n drops;"
                + "desk o most 9;desk p swap;");
        due("made(0, 1)", x.made(0, 1), 1 + 2 + 4 + 16 + 32);
        due("made(0, 0)", x.made(0, 0), 2 + 4 + 16);
        due("made(0, 2)", x.made(0, 2), 8);
        due("made(2, 0)", x.made(2, 0), 0);
        for (int c : new int[] {-1, 3, 10, MIN, MAX}) {
            due("made(" + c + ", 0)", x.made(c, 0), -1);
            due("made(0, " + c + ")", x.made(0, c), -1);
            due("made(" + c + ", " + c + ")", x.made(c, c), -1);
        }
    }

    private static void fewestBySwap() {
        Checks.says("swap: STEPS");
        CopyOrders x = Checks.with(RISING + "desk d swap;");
        for (int c = 0; c < 10; c++) {
            due("fewest(0, " + c + ", 0)", x.fewest(0, c, 0), c);
            due("fewest(" + c + ", 9, 0)", x.fewest(c, 9, 0), 9 - c);
        }
        x = Checks.with("lines 7;copy x abcdefg;copy y gfedcba;desk d swap;");
        due("the most STEPS", x.fewest(0, 1, 0), 21);
    }

    private static void fewestByMost() {
        Checks.says("most K: STEPS by K, cut up");
        for (int k = 1; k <= 9; k++) {
            CopyOrders x = Checks.with(RISING + "desk d most " + k + ";");
            int whole = 0;
            for (int c = 0; c < 10; c++) {
                while (whole * k < c) {
                    whole++;
                }
                due("fewest(0, " + c + ", 0) by most " + k, x.fewest(0, c, 0), whole);
            }
        }
        String seven = "lines 7;copy x abcdefg;copy y gfedcba;";
        int[] wants = {21, 11, 7, 6, 5, 4, 3, 3, 3};
        for (int k = 1; k <= 9; k++) {
            due("21 by " + k, Checks.with(seven + "desk d most " + k + ";").fewest(0, 1, 0), wants[k - 1]);
        }
    }

    private static void fewestByDrops() {
        Checks.says("drops: 0, if they are alike, else none");
        CopyOrders x = Checks.with("copy x abcd;copy y abcd;copy z abdc;copy w abc;desk d drops;");
        due("fewest(0, 0, 0)", x.fewest(0, 0, 0), 0);
        due("fewest(0, 1, 0)", x.fewest(0, 1, 0), 0);
        due("fewest(0, 2, 0)", x.fewest(0, 2, 0), -1);
        due("fewest(0, 3, 0): not WHOLE", x.fewest(0, 3, 0), -1);
        due("fewest(3, 3, 0): not WHOLE", x.fewest(3, 3, 0), -1);
    }

    private static void fewest() {
        Checks.says("NONE: none, not WHOLE, no such ones.");
        CopyOrders x = Checks.with("copy x abcd;copy y bacd;copy z abc;copy w bac;desk s swap;desk m most 3;");
        for (int d = 0; d < 2; d++) {
            due("both WHOLE", x.fewest(0, 1, d), 1);
            due("the first is not", x.fewest(2, 0, d), -1);
            due("the second is not", x.fewest(0, 2, d), -1);
            due("neither is", x.fewest(2, 3, d), -1);
            for (int c : new int[] {-1, 4, 10, MIN, MAX}) {
                due("fewest(" + c + ", 0, d)", x.fewest(c, 0, d), -1);
                due("fewest(0, " + c + ", d)", x.fewest(0, c, d), -1);
            }
        }
        for (int d : new int[] {-1, 2, 6, MIN, MAX}) {
            due("fewest(0, 1, " + d + ")", x.fewest(0, 1, d), -1);
        }
        due("WHOLE of two lines", Checks.with("lines 2;copy x ab;copy y ba;desk s swap;").fewest(0, 1, 0), 1);
        due("two lines of three", Checks.with("lines 3;copy x ab;copy y ba;desk s swap;").fewest(0, 1, 0), -1);
    }

    private static void justByEach() {
        CopyOrders x = Checks.with(RISING + "desk s swap;desk m most 4;desk n most 1;desk d drops;");
        Checks.says("swap: k is STEPS or more by an even number");
        for (int c = 0; c < 10; c++) {
            for (int k = 0; k < 10; k++) {
                due("just(0, " + c + ", 0, " + k + ")", x.just(0, c, 0, k), k == c || k == c + 2 || k == c + 4
                        || k == c + 6 || k == c + 8 ? 1 : 0);
            }
        }
        due("very many, even", x.just(0, 2, 0, MAX - 1), 1);
        due("very many, odd", x.just(0, 2, 0, MAX), 0);
        Checks.says("most K: k is no less than the fewest");
        int[] fewest = {0, 1, 1, 1, 1, 2, 2, 2, 2, 3};
        for (int c = 0; c < 10; c++) {
            for (int k = 0; k < 5; k++) {
                due("just(0, " + c + ", 1, " + k + ")", x.just(0, c, 1, k), k >= fewest[c] ? 1 : 0);
            }
            due("just(0, " + c + ", 1, very many)", x.just(0, c, 1, MAX), 1);
            due("just(0, " + c + ", 2, one less)", x.just(0, c, 2, c - 1), c == 0 ? -1 : 0);
            due("just(0, " + c + ", 2, as many)", x.just(0, c, 2, c), 1);
        }
        Checks.says("drops: k is 0 and they are alike");
        due("alike, 0", x.just(4, 4, 3, 0), 1);
        due("alike, 1", x.just(4, 4, 3, 1), 0);
        due("alike, 2", x.just(4, 4, 3, 2), 0);
        due("unlike, 0", x.just(4, 5, 3, 0), 0);
        due("unlike, 1", x.just(4, 5, 3, 1), 0);
    }

    private static void just() {
        Checks.says("Whether just k (0 or more) may lie between: 1, 0; NONE: not WHOLE, no such ones.");
        CopyOrders x = Checks.with("copy x abcd;copy y bacd;copy z abc;desk s swap;desk m most 3;desk d drops;");
        for (int d = 0; d < 3; d++) {
            due("k 0", x.just(0, 0, d, 0), 1);
            due("k -1", x.just(0, 0, d, -1), -1);
            due("k least", x.just(0, 0, d, MIN), -1);
            due("not WHOLE", x.just(2, 0, d, 1), -1);
            due("not WHOLE", x.just(0, 2, d, 1), -1);
            due("not WHOLE", x.just(2, 2, d, 0), -1);
            for (int c : new int[] {-1, 3, 10, MIN, MAX}) {
                due("just(" + c + ", 0, d, 0)", x.just(c, 0, d, 0), -1);
                due("just(0, " + c + ", d, 0)", x.just(0, c, d, 0), -1);
            }
        }
        for (int d : new int[] {-1, 3, 6, MIN, MAX}) {
            due("just(0, 0, " + d + ", 0)", x.just(0, 0, d, 0), -1);
        }
    }

    private static void judge() {
        Checks.says("the place (from 1) of the first that may not have been made so; 0: all may");
        CopyOrders x = Checks.with(RISING + "desk s swap;desk m most 2;");
        due("two, all may", judge(x, 0, 0, 1), 0);
        due("two, the first may not", judge(x, 0, 0, 2), 1);
        due("all may", judge(x, 0, 0, 1, 2, 3, 4, 5, 6, 7, 8, 9), 0);
        due("and back", judge(x, 0, 9, 8, 7, 6, 5, 4, 3, 2, 1, 0), 0);
        due("the last may not", judge(x, 0, 0, 1, 2, 1, 2, 3, 5), 6);
        due("two may not: the first", judge(x, 0, 0, 1, 3, 4, 6), 2);
        due("one like the one ahead", judge(x, 0, 0, 1, 1), 2);
        due("one like the one ahead, by most", judge(x, 1, 0, 0, 1, 1), 0);
        due("by most 2", judge(x, 1, 0, 2, 4, 3, 5, 8), 5);
        x = Checks.with("copy x abcd;copy y abd;copy z ab;copy w b;copy v db;desk d drops;");
        due("by drops", judge(x, 0, 0, 1, 2, 3), 0);
        due("by drops, two lines at once", judge(x, 0, 0, 2, 3), 1);
        due("by drops, otherwise", judge(x, 0, 0, 1, 4, 3), 2);
        due("by drops, back", judge(x, 0, 0, 1, 0), 2);
    }

    private static void judgeNotAsTold() {
        Checks.says("NONE: not as told (two at least).");
        CopyOrders x = Checks.with("copy x abcd;copy y bacd;desk s swap;desk d drops;");
        due("none", judge(x, 0), -1);
        due("one", judge(x, 0, 0), -1);
        due("two", judge(x, 0, 0, 1), 0);
        due("no such COPY behind", judge(x, 0, 0, 2), -1);
        due("no such COPY ahead", judge(x, 0, 2, 0), -1);
        due("no such COPY behind one that may not", judge(x, 0, 0, 0, 2), -1);
        due("255", judge(x, 0, 0, 1, 255), -1);
        for (int d : new int[] {-1, 2, 6, MIN, MAX}) {
            due("judge(" + d + ")", judge(x, d, 0, 1), -1);
            due("count(6) behind it", x.count(6), 0);
        }
        int[] all = new int[740];
        for (int i = 0; i < all.length; i++) {
            all[i] = i % 2;
        }
        due("740", judge(x, 0, all), 0);
        all[739] = 2;
        due("740, the last one is none", judge(x, 0, all), -1);
    }

    private static void nearestInSum() {
        Checks.says("NEAREST in sum: the whole order the FARS from which to all COPIES are least together");
        CopyOrders x = Checks.with("lines 3;copy x abc;copy y bca;");
        // abc 0 + 2, bac 1 + 1, bca 2 + 0; the others 4
        due("the sum", x.nearest(0, -2), 2);
        due("how many", x.nearest(0, -1), 3);
        due("as they rise", x.nearest(0, 0), 0);
        due("as they rise", x.nearest(0, 1), 2);
        due("as they rise", x.nearest(0, 2), 3);
        due("no more", x.nearest(0, 3), -1);
        x = Checks.with("lines 3;copy x abc;copy y bca;copy z bca;");
        due("twice alike: the sum", x.nearest(0, -2), 2);
        due("twice alike: how many", x.nearest(0, -1), 1);
        due("twice alike: which", x.nearest(0, 0), 3);
        String[] orders = {"abc", "acb", "bac", "bca", "cab", "cba"};
        for (int o = 0; o < orders.length; o++) {
            x = Checks.with("lines 3;copy x " + orders[o] + ";");
            for (int how = 0; how < 2; how++) {
                due(orders[o] + " alone: the sum or the worst", x.nearest(how, -2), 0);
                due(orders[o] + " alone: how many", x.nearest(how, -1), 1);
                due(orders[o] + " alone: which", x.nearest(how, 0), o);
            }
        }
        x = Checks.with("lines 7;copy x g;");
        due("six FALLEN: the sum", x.nearest(0, -2), 18);
        due("six FALLEN: how many", x.nearest(0, -1), 5040);
        due("six FALLEN: the last", x.nearest(0, 5039), 5039);
        due("six FALLEN: no more", x.nearest(0, 5040), -1);
    }

    private static void nearestInWorst() {
        Checks.says("in worst: the greatest of which is least");
        CopyOrders x = Checks.with("lines 3;copy x abc;copy y bca;");
        due("the worst", x.nearest(1, -2), 1);
        due("how many", x.nearest(1, -1), 1);
        due("which", x.nearest(1, 0), 2);
        due("no more", x.nearest(1, 1), -1);
        x = Checks.with("lines 3;copy x abc;copy y bca;copy z bca;");
        due("twice alike", x.nearest(1, 0), 2);
        // FAR 3 and 6 at least: a ahead of b alone tells
        x = Checks.with("lines 3;copy x ab;copy y c;");
        due("the worst of unlike sizes", x.nearest(1, -2), 6);
        due("how many: any", x.nearest(1, -1), 6);
        due("in sum: a ahead of b", x.nearest(0, -1), 3);
    }

    private static void nearest() {
        Checks.says("how many there are (k NONE), the sum or the worst (k -2), or the k-th one's number. "
                + "NONE: no COPIES, no such ones.");
        CopyOrders x = Checks.with("lines 3;copy x cab;");
        for (int how = 0; how < 2; how++) {
            due("how many", x.nearest(how, -1), 1);
            due("the sum or the worst", x.nearest(how, -2), 0);
            due("the first", x.nearest(how, 0), 4);
            for (int k : new int[] {1, 2, -3, -4, MIN, MAX}) {
                due("nearest(" + how + ", " + k + ")", x.nearest(how, k), -1);
            }
        }
        for (int how : new int[] {-1, 2, 3, MIN, MAX}) {
            for (int k = -2; k < 1; k++) {
                due("nearest(" + how + ", " + k + ")", x.nearest(how, k), -1);
            }
        }
        x = Checks.with("lines 3;desk d swap;");
        for (int k = -3; k < 2; k++) {
            due("no COPIES: nearest(0, " + k + ")", x.nearest(0, k), -1);
            due("no COPIES: nearest(1, " + k + ")", x.nearest(1, k), -1);
        }
    }

    private static void tree() {
        Checks.says("TREE of some COPIES (1 to 9, the first one the root)");
        CopyOrders x = Checks.with(RISING);
        due("one", tree(x, 3), 0);
        due("from(0) of one", x.from(0), -1);
        due("two", tree(x, 3, 7), 4);
        due("from(0): the root", x.from(0), -1);
        due("from(1)", x.from(1), 3);
        due("nine", tree(x, 8, 0, 7, 1, 6, 2, 5, 3, 4), 8);
        int[] sources = {-1, 1, 8, 2, 7, 3, 6, 4, 5};
        for (int i = 0; i < 9; i++) {
            due("from(" + i + ") of nine", x.from(i), sources[i]);
        }
        due("missing(0) of nine, each 1 from another", x.missing(0), -1);
        due("ten", tree(x, 0, 1, 2, 3, 4, 5, 6, 7, 8, 9), -1);
        due("from(8) of the latest that was", x.from(8), 5);
        Checks.says("the one with the least FARS together");
        // from the root 3 and 3 and 3; by way of one another 3 and 1 and 1
        x = Checks.with("lines 3;copy x ab;copy y abc;copy z acb;copy w bac;");
        due("three of a size", tree(x, 0, 1, 2, 3), 5);
        due("from(1)", x.from(1), 0);
        due("from(2)", x.from(2), 1);
        due("from(3)", x.from(3), 1);
    }

    private static void treeOfLikeOnes() {
        Checks.says("of like ones the first told, from the first joined");
        // q and r are 1 from p; s is 2 from both and 3 from p
        CopyOrders x = Checks.with("lines 3;copy p abc;copy q acb;copy r bac;copy s cba;");
        due("q told ahead", tree(x, 0, 1, 2, 3), 4);
        due("s from q", x.from(3), 1);
        due("r told ahead", tree(x, 0, 2, 1, 3), 4);
        due("s from r", x.from(3), 2);
        due("s told ahead, then q", tree(x, 0, 3, 1, 2), 4);
        due("s from q", x.from(1), 1);
        due("s told ahead, then r", tree(x, 0, 3, 2, 1), 4);
        due("s from r", x.from(1), 2);
        // p told ahead of q, but joined behind it: t is 2 from both
        x = Checks.with("copy r abcd;copy p cbad;copy q bacd;copy t bcda;");
        due("p told ahead of q", tree(x, 0, 1, 2, 3), 5);
        due("p from q", x.from(1), 2);
        due("q from r", x.from(2), 0);
        due("t from q, joined ahead of p", x.from(3), 2);
        // all alike: each from the root, which was joined first
        x = Checks.with("copy k ab;copy l ab;copy m ab;copy n ab;");
        due("all alike", tree(x, 2, 3, 1, 0), 0);
        for (int i = 1; i < 4; i++) {
            due("from(" + i + ")", x.from(i), 2);
        }
    }

    private static void treeNotAsTold() {
        Checks.says("TREE of the tape's COPIES (unlike): the sum; NONE: not as told.");
        CopyOrders x = Checks.with("copy x abcd;copy y bacd;copy z badc;");
        due("three", tree(x, 0, 1, 2), 2);
        int[][] bad = {{}, {3}, {255}, {0, 3}, {3, 0}, {0, 1, 2, 3}, {0, 0}, {1, 0, 1}, {0, 1, 2, 2},
            {0, 1, 2, 0, 1, 2, 0, 1, 2}, {0, 1, 2, 3, 4, 5, 6, 7, 8, 9}};
        for (int[] row : bad) {
            due("tree() not as told", tree(x, row), -1);
            due("count(6) behind it", x.count(6), 0);
            due("from(2) of the latest that was", x.from(2), 1);
        }
        due("without COPIES", tree(new CopyOrders(), 0), -1);
        due("without COPIES or bytes", new CopyOrders().tree(), -1);
    }

    private static void from() {
        Checks.says("by the latest tree() that was not NONE; NONE: it is the root, there is none such, or ahead of any.");
        CopyOrders x = Checks.with("copy x abcd;copy y bacd;copy z badc;");
        for (int i : new int[] {-1, 0, 1, 8, 9, MIN, MAX}) {
            due("ahead of any: from(" + i + ")", x.from(i), -1);
        }
        due("tree() that is NONE", tree(x, 0, 0), -1);
        due("ahead of any but NONE", x.from(1), -1);
        due("three", tree(x, 2, 0, 1), 2);
        int[] places = {-1, 0, 3, 4, 9, 10, MIN, MAX};
        for (int i : places) {
            due("from(" + i + ")", x.from(i), -1);
        }
        due("from(1)", x.from(1), 1);
        due("from(2)", x.from(2), 2);
        due("two", tree(x, 2, 0), 2);
        due("from(1) by the latest", x.from(1), 2);
        due("from(2) by the latest", x.from(2), -1);
        Checks.house(x, "copy x ab;");
        due("from(1) in a new HOUSE", x.from(1), 2);
    }

    private static void missing() {
        Checks.says("makes that sum least (of like ones the first), if it is less than without");
        CopyOrders x = Checks.with("copy x bacd;copy y acbd;copy z abdc;");
        due("three, 2 from one another", tree(x, 0, 1, 2), 4);
        due("abcd is 1 from each", x.missing(0), 0);
        due("the sum then", x.missing(1), 3);
        due("from(1) is not changed", x.from(1), 0);
        due("two of them", tree(x, 0, 1), 2);
        // with one between, 1 and 1: not less
        due("none makes it less", x.missing(0), -1);
        due("none makes it less", x.missing(1), -1);
        due("one", tree(x, 0), 0);
        due("one: none makes it less", x.missing(0), -1);
        x = Checks.with("lines 2;copy x a;copy y b;");
        due("a and b", tree(x, 0, 1), 6);
        due("ab or ba: 3 and 3, not less", x.missing(0), -1);
        x = Checks.with("lines 3;copy x a;copy y b;copy z c;");
        due("a, b and c", tree(x, 0, 1, 2), 12);
        due("6 and 6 and 6, or not at all", x.missing(0), -1);
        x = Checks.with("lines 3;copy x ab;copy y bc;copy z ca;");
        // each 6 from each other one; abc is 3 from ab and bc, 4 from ca
        due("ab, bc and ca", tree(x, 0, 1, 2), 12);
        due("the first of like ones", x.missing(0), 0);
        due("the sum then", x.missing(1), 10);
    }

    private static void missingFirst() {
        Checks.says("(of like ones the first)");
        // three 1 from abcdefg and three 1 from gfedcba: an order between the first three, or
        // between the others, makes it one less
        CopyOrders x = Checks.with("lines 7;copy k gfedcab;copy l gfecdba;copy m fgedcba;"
                + "copy n bacdefg;copy o abdcefg;copy p abcdegf;");
        due("tree()", tree(x, 0, 1, 2, 3, 4, 5), 27);
        due("missing(0)", x.missing(0), 0);
        due("missing(1)", x.missing(1), 26);
    }

    private static void missingNow() {
        Checks.says("MISSING of these COPIES (as they are now)");
        CopyOrders x = Checks.with("copy x abcd;copy y abcd;copy z abcd;");
        due("three alike", tree(x, 0, 1, 2), 0);
        due("missing(1)", x.missing(1), -1);
        Checks.house(x, "copy x bacd;copy y acbd;copy z abdc;");
        due("missing(0) now", x.missing(0), 0);
        due("missing(1) now", x.missing(1), 3);
        Checks.house(x, "lines 5;copy x abcde;copy y bacde;copy z abced;copy w edcba;");
        due("missing(0) of five lines", x.missing(0), -1);
        Checks.house(x, "lines 5;copy x acbde;copy y bacde;copy z abdce;copy w abcde;");
        due("missing(0) of five lines", x.missing(0), 0);
        due("missing(1) of five lines", x.missing(1), 3);
    }

    private static void missingNone() {
        Checks.says("NONE: none makes it less, no tree() yet, one of these COPIES is there no more, another what.");
        String three = "copy x bacd;copy y acbd;copy z abdc;";
        CopyOrders x = Checks.with(three);
        due("no tree() yet", x.missing(0), -1);
        due("no tree() yet", x.missing(1), -1);
        due("tree() that is NONE", tree(x, 0, 0), -1);
        due("no tree() yet", x.missing(0), -1);
        due("tree()", tree(x, 0, 1, 2), 4);
        for (int what : new int[] {-1, 2, 3, MIN, MAX}) {
            due("missing(" + what + ")", x.missing(what), -1);
        }
        due("tree() that is NONE", tree(x, 0, 1, 2, 3), -1);
        due("missing(1) of the latest that was", x.missing(1), 3);
        Checks.house(x, "copy x bacd;copy y acbd;");
        due("the last one is there no more", x.missing(0), -1);
        due("the last one is there no more", x.missing(1), -1);
        Checks.lay(x, 0, 1, 3, 2);
        due("add()", x.add(), 2);
        due("it is there again", x.missing(1), 3);
        Checks.house(x, "");
        due("none is there", x.missing(0), -1);
        Checks.house(x, three);
        due("they are there again", x.missing(0), 0);
        Checks.house(x, three + "copy w abcd;copy v dcba;");
        due("tree() of five", tree(x, 0, 1, 2, 4, 3), 8);
        due("tree() of the first three", tree(x, 0, 1, 2), 4);
        Checks.house(x, three);
        due("those of an earlier tree() are there no more", x.missing(1), 3);
    }
}
