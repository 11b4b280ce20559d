/** Promises 19 to 33: each sentence that names a boundary, at it and beyond, with answers worked out by hand. */
public final class OrdersBoundaryTest {
    private static final int MIN = Integer.MIN_VALUE;
    private static final int MAX = Integer.MAX_VALUE;
    private static final int[] BAD_COPYINGS = {-1, -2, 11, 12, 100, MIN, MAX};

    public static void main(String[] args) {
        waysByPlaces();
        ways();
        likeliestFirst();
        likeliest();
        likely();
        firsts();
        drawnByDraws();
        drawnWraps();
        drawn();
        again();
        longest();
        along();
        holdsSteps();
        holds();
        marks();
        senseOfOrders();
        sense();
        mendedFirst();
        mended();
        songs();
        song();
        betterFirst();
        better();
        joinFirst();
        join();
        wovenPieces();
        woven();
        Checks.finish();
    }

    private static void due(String call, long got, long want) {
        Checks.due(call, got, want);
    }

    private static int holds(CopyOrders x, int k, int... marks) {
        Checks.lay(x, marks);
        return x.holds(k);
    }

    // orders of three lines: 0 abc, 1 acb, 2 bac, 3 bca, 4 cab, 5 cba

    private static void waysByPlaces() {
        Checks.says("for each copying the W of the place at which it exchanges (P: lines P and P and 1), "
                + "all multiplied, of all rows of exchanges added");
        CopyOrders x = Checks.with("lines 3;likely 1 3;likely 2 5;");
        due("place 1 of abc", x.ways(0, 2, 1), 3);
        due("place 2 of abc", x.ways(0, 1, 1), 5);
        due("place 1 of cba", x.ways(5, 3, 1), 3);
        due("place 2 of cba", x.ways(5, 4, 1), 5);
        due("place 1, then 2", x.ways(0, 3, 2), 15);
        due("both places twice", x.ways(0, 0, 2), 9 + 25);
        due("1 2 1 or 2 1 2", x.ways(0, 5, 3), 45 + 75);
        due("more than one way to bac", x.ways(0, 2, 3), 27 + 3 * 25 + 25 * 3);
        due("no way at once", x.ways(0, 5, 2), 0);
        due("to itself by one", x.ways(0, 0, 1), 0);
        x = Checks.with("lines 3;likely 1 0;");
        due("W 0", x.ways(0, 2, 1), 0);
        due("W 0, otherwise", x.ways(0, 1, 1), 1);
        due("W 0, three times the other", x.ways(0, 1, 3), 1);
        x = Checks.with("lines 2;likely 1 9;");
        due("9 ten times: above an int", x.ways(0, 0, 10), 3486784401L);
    }

    private static void ways() {
        Checks.says("WAYS after k copyings (0 to 10) by swap from one whole order to another one");
        int[] orders = {2, 6, 24, 120, 720, 5040};
        for (int n = 2; n <= 7; n++) {
            CopyOrders x = Checks.with("lines " + n + ";");
            int last = orders[n - 2] - 1;
            due("k 0 to itself", x.ways(last, last, 0), 1);
            due("k 0 to another one", x.ways(last, 0, 0), 0);
            due("k 2 to itself", x.ways(last, last, 2), n - 1);
            due("k 9 to itself", x.ways(0, 0, 9), 0);
            due("k 10 to itself", x.ways(0, 0, 10) > 0 ? 1 : 0, 1);
            for (int o : new int[] {-1, last + 1, last + 2, MIN, MAX}) {
                due("ways(" + o + ", 0, 0)", x.ways(o, 0, 0), -1);
                due("ways(0, " + o + ", 0)", x.ways(0, o, 0), -1);
                due("ways(" + o + ", " + o + ", 0)", x.ways(o, o, 0), -1);
            }
            for (int k : BAD_COPYINGS) {
                due("ways(0, 0, " + k + ")", x.ways(0, 0, k), -1);
            }
        }
    }

    private static void likeliestFirst() {
        Checks.says("the whole order with the greatest product of both WAYS (of like ones the first; none, if it is 0)");
        CopyOrders x = Checks.with("lines 3;copy x abc;copy y cba;copy z bca;");
        due("acb and bac are alike", x.likeliest(0, 1, 0, 1), 1);
        due("likely()", x.likely(), 1);
        // after 2: abc by 2, bca and cab by 1 each
        due("abc by 2 and 2", x.likeliest(0, 2, 0, 2), 0);
        due("likely()", x.likely(), 4);
        due("too few copyings", x.likeliest(0, 1, 1, 1), -1);
        due("an odd number between", x.likeliest(0, 2, 1, 2), -1);
        due("two apart by 1 and 1", x.likeliest(0, 1, 2, 1), 2);
        due("two apart by 2 and 0", x.likeliest(0, 2, 2, 0), 3);
        due("two apart by 0 and 2", x.likeliest(0, 0, 2, 2), 0);
        x = Checks.with("lines 3;copy x abc;likely 1 2;likely 2 1;");
        due("the greater one behind the first", x.likeliest(0, 1, 0, 1), 2);
        due("likely()", x.likely(), 4);
        x = Checks.with("lines 3;copy x abc;likely 1 0;likely 2 0;");
        due("all W 0", x.likeliest(0, 1, 0, 1), -1);
        due("all W 0, no copying", x.likeliest(0, 0, 0, 0), 0);
    }

    private static void likeliest() {
        Checks.says("LIKELIEST first for COPIES a, b: its number; NONE: none; -2: not WHOLE, no such ones.");
        CopyOrders x = Checks.with("lines 3;copy x abc;copy y bac;copy z ab;");
        due("k 0, m 1", x.likeliest(1, 0, 0, 1), 2);
        due("k 0, m 5", x.likeliest(1, 0, 0, 5), 2);
        due("k 5, m 0", x.likeliest(0, 5, 1, 0), 2);
        due("k 5, m 5", x.likeliest(0, 5, 0, 5) >= 0 ? 1 : 0, 1);
        for (int k : new int[] {-1, 6, 7, 10, MIN, MAX}) {
            due("k " + k, x.likeliest(0, k, 0, 0), -2);
            due("m " + k, x.likeliest(0, 0, 0, k), -2);
        }
        due("a is not WHOLE", x.likeliest(2, 0, 0, 0), -2);
        due("b is not WHOLE", x.likeliest(0, 0, 2, 0), -2);
        due("neither is WHOLE", x.likeliest(2, 0, 2, 0), -2);
        for (int c : new int[] {-1, 3, 10, MIN, MAX}) {
            due("a " + c, x.likeliest(c, 0, 0, 0), -2);
            due("b " + c, x.likeliest(0, 0, c, 0), -2);
        }
        due("none", x.likeliest(0, 0, 1, 0), -1);
    }

    private static void likely() {
        Checks.says("The product by the latest likeliest() that was 0 or above; 0 ahead of any.");
        CopyOrders x = Checks.with("lines 3;copy x abc;copy y bac;copy z ab;likely 1 9;");
        due("ahead of any", x.likely(), 0);
        due("none", x.likeliest(0, 0, 1, 0), -1);
        due("ahead of any but NONE", x.likely(), 0);
        due("-2", x.likeliest(2, 0, 1, 0), -2);
        due("ahead of any but -2", x.likely(), 0);
        due("number 0", x.likeliest(0, 0, 0, 0), 0);
        due("likely() of number 0", x.likely(), 1);
        due("another", x.likeliest(1, 0, 0, 1), 2);
        due("likely() of it", x.likely(), 9);
        due("asked again", x.likely(), 9);
        due("none", x.likeliest(0, 0, 1, 0), -1);
        due("behind NONE", x.likely(), 9);
        due("-2", x.likeliest(0, 6, 1, 0), -2);
        due("behind -2", x.likely(), 9);
        x = Checks.with("lines 2;copy x ab;likely 1 9;");
        // 9 ten times is above an int
        due("k 5, m 5", x.likeliest(0, 5, 0, 5), 1);
        due("likely() above an int", x.likely(), 3486784401L);
        Checks.house(x, "");
        due("in a new HOUSE", x.likely(), 3486784401L);
    }

    private static void firsts() {
        Checks.says("From how many ORDERS there are WAYS to ORDER y after k copyings; NONE: no such ones.");
        CopyOrders x = new CopyOrders();
        // so many orders of four lines have 0, 1, 2 .. STEPS: 1 3 5 6 5 3 1
        int[] wants = {1, 3, 6, 9, 11, 12, 12, 12, 12, 12, 12};
        for (int k = 0; k <= 10; k++) {
            due("firsts(0, " + k + ")", x.firsts(0, k), wants[k]);
            due("firsts(23, " + k + ")", x.firsts(23, k), wants[k]);
        }
        for (int k : BAD_COPYINGS) {
            due("firsts(0, " + k + ")", x.firsts(0, k), -1);
        }
        for (int o : new int[] {-1, 24, 25, MIN, MAX}) {
            due("firsts(" + o + ", 0)", x.firsts(o, 0), -1);
        }
        x = Checks.with("lines 3;likely 1 0;likely 2 0;");
        due("all W 0, k 0", x.firsts(3, 0), 1);
        due("all W 0, k 1", x.firsts(3, 1), 0);
        x = Checks.with("lines 3;likely 1 0;likely 2 9;");
        due("one W 0, k 1", x.firsts(3, 1), 1);
        due("one W 0, k 10", x.firsts(3, 10), 1);
    }

    private static void drawnByDraws() {
        Checks.says("a draw of all W together, the place P being the first for which the W up to it are above the draw");
        // draws of 4 by the seeds 0 to 4: 0 2 1 3 1
        CopyOrders x = Checks.with("likely 1 2;likely 2 1;likely 3 1;");
        int[] first = {6, 2, 6, 1, 6};
        // W 1 2 1
        int[] second = {6, 2, 2, 1, 2};
        // W 1 0 3
        int[] third = {6, 1, 1, 1, 1};
        // W 0 3 1
        int[] fourth = {2, 2, 2, 1, 2};
        String[] houses = {"likely 2 1;likely 1 2;", "likely 2 2;", "likely 2 0;likely 3 3;", "likely 1 0;likely 2 3;"};
        int[][] wants = {first, second, third, fourth};
        for (int h = 0; h < houses.length; h++) {
            x = Checks.with(houses[h]);
            for (int seed = 0; seed <= 4; seed++) {
                due("seed " + seed + " in " + houses[h], x.drawn(0, 1, seed), wants[h][seed]);
            }
        }
        x = Checks.with("likely 1 0;likely 2 0;likely 3 1;");
        due("one place alone", x.drawn(0, 1, 0), 1);
        due("one place alone, from cdab", x.drawn(16, 1, 0), 17);
        due("one place alone, twice", x.drawn(0, 2, 0), 0);
    }

    private static void drawnWraps() {
        Checks.says("x becomes x * 1103515245 + 12345 (an int, wrapping), the draw is (x >>> 8) % n");
        CopyOrders x = new CopyOrders();
        // of three places: 465257 (17242473 unless it wraps) by seed 4, 8388656 by the least int,
        // 4078049 by the greatest, 12466657 by -1
        due("seed 0: place 1", x.drawn(0, 1, 0), 6);
        due("seed 1: place 3", x.drawn(0, 1, 1), 1);
        due("seed 3: place 2", x.drawn(0, 1, 3), 2);
        due("seed 4: place 3", x.drawn(0, 1, 4), 1);
        due("the least seed: place 3", x.drawn(0, 1, MIN), 1);
        due("the greatest seed: place 3", x.drawn(0, 1, MAX), 1);
        due("seed -1: place 2", x.drawn(0, 1, -1), 2);
        // 12345 by seed 0, then -740551042: 13884438, place 1 again
        due("seed 0, twice", x.drawn(0, 2, 0), 0);
        due("as its second draw by the seed then", x.drawn(6, 1, 12345), 0);
    }

    private static void drawn() {
        Checks.says("DRAWN from ORDER x, k (0 to 100) copyings: the order's number; NONE: no such ones, or all W are 0.");
        CopyOrders x = new CopyOrders();
        for (int o = 0; o < 24; o++) {
            due("k 0 from " + o, x.drawn(o, 0, 77), o);
        }
        due("k 100", x.drawn(0, 100, 5) >= 0 ? 1 : 0, 1);
        for (int k : new int[] {-1, 101, 102, MIN, MAX}) {
            due("k " + k, x.drawn(0, k, 5), -1);
        }
        for (int o : new int[] {-1, 24, 25, MIN, MAX}) {
            due("from " + o, x.drawn(o, 1, 5), -1);
            due("from " + o + ", k 0", x.drawn(o, 0, 5), -1);
        }
        x = Checks.with("lines 2;likely 1 0;");
        due("all W 0", x.drawn(0, 1, 5), -1);
        due("all W 0, k 100", x.drawn(1, 100, 5), -1);
        x = Checks.with("lines 7;likely 1 0;likely 2 0;likely 3 0;likely 4 0;likely 5 0;likely 6 0;");
        due("all six W 0", x.drawn(0, 1, 5), -1);
        x = Checks.with("lines 7;likely 1 0;likely 2 0;likely 3 0;likely 4 0;likely 5 0;");
        due("the last place alone", x.drawn(0, 1, 5), 1);
        due("the last place alone, 99 times", x.drawn(5039, 99, 5), 5038);
        due("the last place alone, 100 times", x.drawn(5039, 100, 5), 5039);
        x = Checks.with("lines 2;");
        due("two lines, 99 times", x.drawn(0, 99, -7), 1);
        due("two lines, 100 times", x.drawn(0, 100, -7), 0);
    }

    private static void again() {
        Checks.says("how many rows of k exchanges (0 to 10) come back to the order they began with (each place counts 1)");
        String[] weights = {"", "likely 1 0;", "likely 1 9;"};
        int[] two = {1, 0, 1, 0, 1, 0, 1, 0, 1, 0, 1};
        int[] three = {1, 0, 2, 0, 6, 0, 22, 0, 86, 0, 342};
        for (String weight : weights) {
            CopyOrders x = Checks.with("lines 2;" + weight);
            CopyOrders y = Checks.with("lines 3;" + weight);
            for (int k = 0; k <= 10; k++) {
                due("again(" + k + ") of two lines, " + weight, x.again(k), two[k]);
                due("again(" + k + ") of three lines, " + weight, y.again(k), three[k]);
            }
        }
        for (int n = 2; n <= 7; n++) {
            CopyOrders x = Checks.with("lines " + n + ";");
            due("again(0) of " + n, x.again(0), 1);
            due("again(1) of " + n, x.again(1), 0);
            due("again(2) of " + n, x.again(2), n - 1);
            // twice each of two places, in turn or not, or one four times; two beside each other come
            // back in turn only as p p q q, q q p p, p q q p, q p p q
            due("again(4) of " + n, x.again(4), (n - 1) + 4 * (n - 2) + 6 * (n - 2) * (n - 3) / 2);
        }
        Checks.says("AGAIN; NONE: no such k.");
        CopyOrders x = new CopyOrders();
        for (int k : BAD_COPYINGS) {
            due("again(" + k + ")", x.again(k), -1);
        }
        due("again(10)", x.again(10) > 0 ? 1 : 0, 1);
    }

    private static void longest() {
        Checks.says("all WAYS after k copyings times FAR from the beginning, added, and all WAYS added: in least numbers");
        CopyOrders x = Checks.with("lines 3;");
        int[][] wants = {{0, 1}, {1, 1}, {1, 1}, {3, 2}};
        for (int o = 0; o < 6; o++) {
            for (int k = 0; k < wants.length; k++) {
                due("along(" + o + ", " + k + ", 0)", x.along(o, k, 0), wants[k][0]);
                due("along(" + o + ", " + k + ", 1)", x.along(o, k, 1), wants[k][1]);
            }
        }
        x = Checks.with("lines 3;likely 1 3;likely 2 2;");
        // of 25 WAYS 13 come back and 12 lie 2 STEPS away
        due("25 WAYS, above", x.along(4, 2, 0), 24);
        due("25 WAYS, below", x.along(4, 2, 1), 25);
        x = Checks.with("lines 3;likely 1 6;likely 2 6;");
        due("all W alike, above", x.along(4, 3, 0), 3);
        due("all W alike, below", x.along(4, 3, 1), 2);
        x = Checks.with("lines 2;likely 1 9;");
        due("9 ten times, all come back: above", x.along(1, 10, 0), 0);
        due("9 ten times, all come back: below", x.along(1, 10, 1), 1);
        due("9 nine times, none does: above", x.along(1, 9, 0), 1);
        due("9 nine times, none does: below", x.along(1, 9, 1), 1);
    }

    private static void along() {
        Checks.says("what 0 above, 1 below. NoSuchElementException: no such ones, or no WAYS.");
        CopyOrders x = Checks.with("lines 3;");
        due("k 10", x.along(0, 10, 1) > 0 ? 1 : 0, 1);
        for (int what = 0; what < 2; what++) {
            for (int o : new int[] {-1, 6, 7, MIN, MAX}) {
                Checks.alongThrows(x, o, 0, what);
            }
            for (int k : BAD_COPYINGS) {
                Checks.alongThrows(x, 0, k, what);
            }
        }
        for (int what : new int[] {-1, 2, 3, MIN, MAX}) {
            Checks.alongThrows(x, 0, 0, what);
            Checks.alongThrows(x, 0, 1, what);
        }
        x = Checks.with("lines 3;likely 1 0;likely 2 0;");
        for (int k = 1; k <= 10; k++) {
            Checks.alongThrows(x, 0, k, 0);
            Checks.alongThrows(x, 0, k, 1);
        }
        due("no W, no copying: above", x.along(5, 0, 0), 0);
        due("no W, no copying: below", x.along(5, 0, 1), 1);
    }

    private static void holdsSteps() {
        Checks.says("It HOLDS k steps, if for each other order with like MARKS at all places STEPS to it are above 2 k.");
        CopyOrders x = Checks.with("lines 7;");
        // like MARKS at two places: exchanging those is so many STEPS: 1 3 5 7 9 11
        int[][] rows = {{0, 0, 1, 2, 3, 4, 5}, {0, 1, 0, 2, 3, 4, 5}, {0, 1, 2, 0, 3, 4, 5}, {0, 1, 2, 3, 0, 4, 5},
            {0, 1, 2, 3, 4, 0, 5}, {0, 1, 2, 3, 4, 5, 0}, {6, 0, 1, 2, 3, 4, 5}};
        for (int i = 0; i < rows.length; i++) {
            for (int k = 0; k <= 9; k++) {
                due("row " + i + " holds " + k, holds(x, k, rows[i]), i == 6 || k <= i ? 1 : 0);
            }
        }
        due("all alike hold 0", holds(x, 0, 9, 9, 9, 9, 9, 9, 9), 1);
        due("all alike hold 1", holds(x, 1, 9, 9, 9, 9, 9, 9, 9), 0);
        x = Checks.with("lines 3;");
        due("a c alike hold 1", holds(x, 1, 5, 4, 5), 1);
        due("a c alike hold 2", holds(x, 2, 5, 4, 5), 0);
    }

    private static void holds() {
        Checks.says("HOLD k steps (0 to 9): 1, 0; NONE: not as told.");
        for (int n = 2; n <= 7; n++) {
            CopyOrders x = Checks.with("lines " + n + ";");
            for (int size = 0; size <= n + 2; size++) {
                int[] row = new int[size];
                for (int i = 0; i < size; i++) {
                    row[i] = 255 - i;
                }
                due(size + " MARKS of " + n, holds(x, 9, row), size == n ? 1 : -1);
                due("count(6) behind it", x.count(6), 0);
            }
        }
        CopyOrders x = Checks.with("lines 3;");
        due("k 0", holds(x, 0, 0, 1, 2), 1);
        due("k 9", holds(x, 9, 0, 1, 2), 1);
        for (int k : new int[] {-1, 10, 11, MIN, MAX}) {
            due("k " + k, holds(x, k, 0, 1, 2), -1);
            due("count(6) behind it", x.count(6), 0);
        }
    }

    private static void marks() {
        Checks.says("By m MARKS in turn (place i less i by m cut times m): the fewest m that HOLD k steps.");
        for (int n = 2; n <= 7; n++) {
            CopyOrders x = Checks.with("lines " + n + ";");
            // by m in turn like MARKS are m places apart at least: 2 m - 1 STEPS
            for (int k = 0; k <= 9; k++) {
                due("marks(" + k + ") of " + n, x.marks(k), k + 1 < n ? k + 1 : n);
            }
        }
        Checks.says("The fewest MARKS in turn that HOLD k steps (0 to 9); NONE: no such k.");
        CopyOrders x = new CopyOrders();
        for (int k : new int[] {-1, 10, 11, MIN, MAX}) {
            due("marks(" + k + ")", x.marks(k), -1);
        }
        for (int k = 0; k <= 9; k++) {
            due("holds(9)", holds(x, 9, 7, 5, 9, 8), 1);
            due("marks(" + k + ") behind holds()", x.marks(k), k < 3 ? k + 1 : 4);
        }
    }

    private static void senseOfOrders() {
        Checks.says("an order HOLDS it, if of each 'sense' both of which it has A is ahead of B");
        CopyOrders x = Checks.with("lines 3;sense c a;");
        due("how many", x.sense(-1), 3);
        int[] wants = {3, 4, 5};
        for (int k = 0; k < 3; k++) {
            due("sense(" + k + ")", x.sense(k), wants[k]);
        }
        x = Checks.with("lines 3;sense c a;sense a b;");
        due("of each: how many", x.sense(-1), 1);
        due("of each: which", x.sense(0), 4);
        int[] halves = {1, 3, 12, 60, 360, 2520};
        for (int n = 2; n <= 7; n++) {
            char last = "abcdefg".charAt(n - 1);
            char ahead = "abcdefg".charAt(n - 2);
            x = Checks.with("lines " + n + ";sense " + last + " " + ahead + ";");
            due("the last two of " + n + ": how many", x.sense(-1), halves[n - 2]);
            due("the last two of " + n + ": the first", x.sense(0), 1);
            x = Checks.with("lines " + n + ";sense " + ahead + " " + last + ";");
            due("the last two of " + n + " in turn: how many", x.sense(-1), halves[n - 2]);
            due("the last two of " + n + " in turn: the first", x.sense(0), 0);
        }
        x = Checks.with("lines 3;copy x ab;copy y cb;copy z ca;copy w ac;copy v b;sense a c;");
        Checks.sentence(x, "holds");
        due("both of which it has", x.said(), 1 + 2 + 8 + 16);
    }

    private static void sense() {
        Checks.says("Whole orders that HOLD the SENSE: how many (k NONE), or the k-th one's number. NONE: no such one.");
        CopyOrders x = Checks.with("lines 3;");
        due("without 'sense': how many", x.sense(-1), 6);
        due("without 'sense': the last", x.sense(5), 5);
        for (int k : new int[] {-2, -3, 6, 7, MIN, MAX}) {
            due("sense(" + k + ")", x.sense(k), -1);
        }
        x = Checks.with("lines 3;sense c b;");
        due("one 'sense': how many", x.sense(-1), 3);
        due("one 'sense': the first", x.sense(0), 1);
        due("one 'sense': the last", x.sense(2), 5);
        due("one 'sense': no more", x.sense(3), -1);
        x = Checks.with("lines 3;sense c b;sense b c;");
        due("none: how many", x.sense(-1), 0);
        due("none: the first", x.sense(0), -1);
        x = Checks.with("lines 7;sense g a;");
        due("half of them: how many", x.sense(-1), 2520);
        due("half of them: the last", x.sense(2519), 5039);
        due("half of them: no more", x.sense(2520), -1);
    }

    private static void mendedFirst() {
        Checks.says("the whole order that HOLDS it and is least FAR from a COPY (of like ones the first)");
        CopyOrders x = Checks.with("lines 3;copy x abc;copy y cba;copy z b;copy w bca;sense a c;");
        due("it HOLDS", x.mended(0, 0), 0);
        due("it HOLDS: how FAR", x.mended(0, 1), 0);
        // acb and bac are 2 from cba, abc 3
        due("like ones", x.mended(1, 0), 1);
        due("like ones: how FAR", x.mended(1, 1), 2);
        due("one line: the first of all", x.mended(2, 0), 0);
        due("one line: how FAR", x.mended(2, 1), 6);
        // bac is 1 from bca
        due("one STEP", x.mended(3, 0), 2);
        due("one STEP: how FAR", x.mended(3, 1), 1);
        x = Checks.with("lines 3;copy x ca;sense a c;");
        // all that hold are 1 from ca, and one line fell
        due("not WHOLE", x.mended(0, 0), 0);
        due("not WHOLE: how FAR", x.mended(0, 1), 4);
    }

    private static void mended() {
        Checks.says("the order's number (what 0), how FAR (1). NONE: none HOLDS the SENSE, no such ones.");
        CopyOrders x = Checks.with("lines 3;copy x cab;copy y a;");
        due("without 'sense'", x.mended(0, 0), 4);
        for (int what : new int[] {-1, 2, 3, MIN, MAX}) {
            due("mended(0, " + what + ")", x.mended(0, what), -1);
        }
        for (int c : new int[] {-1, 2, 10, MIN, MAX}) {
            due("mended(" + c + ", 0)", x.mended(c, 0), -1);
            due("mended(" + c + ", 1)", x.mended(c, 1), -1);
        }
        x = Checks.with("lines 3;copy x cab;copy y a;sense a b;sense b c;sense c a;");
        for (int c = 0; c < 2; c++) {
            due("none HOLDS: mended(" + c + ", 0)", x.mended(c, 0), -1);
            due("none HOLDS: mended(" + c + ", 1)", x.mended(c, 1), -1);
        }
    }

    private static void songs() {
        Checks.says("for each 'rhyme' with B right behind A its G, added");
        CopyOrders x = Checks.with("lines 3;rhyme a b 5;rhyme b a 7;rhyme b c 99;rhyme a c 20;");
        int[] wants = {104, 20, 27, 99, 5, 7};
        for (int o = 0; o < 6; o++) {
            due("song(" + o + ")", x.song(o), wants[o]);
        }
        x = Checks.with("lines 3;");
        due("without 'rhyme'", x.song(5), 0);
        x = Checks.with("lines 7;rhyme a b 99;rhyme b c 99;rhyme c d 99;rhyme d e 99;rhyme e f 99;rhyme f g 99;"
                + "rhyme g a 99;");
        due("six of 99", x.song(0), 594);
        due("the other way round", x.song(5039), 0);
    }

    private static void song() {
        Checks.says("SONG of ORDER x; NONE: no such one.");
        int[] orders = {2, 6, 24, 120, 720, 5040};
        for (int n = 2; n <= 7; n++) {
            CopyOrders x = Checks.with("lines " + n + ";rhyme a b 3;rhyme b a 4;");
            int total = orders[n - 2];
            due("song(0)", x.song(0), 3);
            due("song(last)", x.song(total - 1), 4);
            for (int o : new int[] {-1, total, total + 1, MIN, MAX}) {
                due("song(" + o + ") of " + n, x.song(o), -1);
            }
        }
    }

    private static void betterFirst() {
        Checks.says("the whole order within k STEPS of a WHOLE COPY with the greatest SONG "
                + "(of like ones the least STEPS, then the first)");
        CopyOrders x = Checks.with("lines 3;copy x abc;copy y bca;copy z cab;rhyme c b 5;rhyme b a 4;");
        // songs: acb 5, bac 4, cba 9; from abc they are 1, 1 and 3 STEPS away
        int[] wants = {0, 1, 1, 5, 5};
        for (int k = 0; k < wants.length; k++) {
            due("better(0, " + k + ")", x.better(0, k), wants[k]);
        }
        x = Checks.with("lines 3;copy x bca;copy y cab;copy z abc;rhyme b a 3;");
        due("like ones, like STEPS: the first", x.better(0, 3), 2);
        due("like ones: the least STEPS", x.better(1, 3), 5);
        due("like ones: the least STEPS", x.better(2, 3), 2);
        due("like ones: within 0", x.better(2, 0), 0);
        x = Checks.with("lines 3;copy x cab;");
        due("no song: itself", x.better(0, 21), 4);
    }

    private static void better() {
        Checks.says("BETTER of COPY c within k STEPS (0 to 21): the order's number; NONE: not WHOLE, no such ones.");
        CopyOrders x = Checks.with("lines 7;copy x abcdefg;copy y abcdef;rhyme g f 9;rhyme f e 9;rhyme e d 9;rhyme d c 9;"
                + "rhyme c b 9;rhyme b a 9;");
        due("k 0", x.better(0, 0), 0);
        due("k 1: abcdegf first", x.better(0, 1), 1);
        due("k 21", x.better(0, 21), 5039);
        due("k 20: not all the way", x.better(0, 20) == 5039 ? 1 : 0, 0);
        for (int k : new int[] {-1, 22, 23, MIN, MAX}) {
            due("k " + k, x.better(0, k), -1);
        }
        due("not WHOLE", x.better(1, 21), -1);
        for (int c : new int[] {-1, 2, 10, MIN, MAX}) {
            due("better(" + c + ", 0)", x.better(c, 0), -1);
        }
        x = Checks.with("lines 2;copy x ba;");
        due("more STEPS than there are", x.better(0, 21), 1);
    }

    private static void joinFirst() {
        Checks.says("the whole order the STEPS from which to both together are least (of like ones the first)");
        CopyOrders x = Checks.with("lines 3;copy x bca;copy y cba;copy z bac;copy w ab;copy v cb;copy u c;copy t ba;");
        due("two WHOLE ones", x.join(0, 1, 0), 3);
        due("two WHOLE ones: STEPS", x.join(0, 1, 1), 1);
        due("the other way round", x.join(1, 0, 0), 3);
        due("one alone", x.join(1, 1, 0), 5);
        due("one alone: STEPS", x.join(1, 1, 1), 0);
        due("bac and cba: the first of those between", x.join(2, 1, 0), 2);
        due("bac and cba: STEPS", x.join(2, 1, 1), 2);
        due("ab and cb: acb", x.join(3, 4, 0), 1);
        due("ab and cb: STEPS", x.join(3, 4, 1), 0);
        due("no pair of lines", x.join(5, 5, 0), 0);
        due("no pair of lines: STEPS", x.join(5, 5, 1), 0);
        due("ab and ba: the first", x.join(3, 6, 0), 0);
        due("ab and ba: STEPS", x.join(3, 6, 1), 1);
    }

    private static void join() {
        Checks.says("JOIN of two COPIES: its number (what 0), the STEPS together (1). NONE: no such ones.");
        CopyOrders x = Checks.with("lines 3;copy x bca;copy y cba;");
        for (int what : new int[] {-1, 2, 3, MIN, MAX}) {
            due("join(0, 1, " + what + ")", x.join(0, 1, what), -1);
        }
        for (int c : new int[] {-1, 2, 10, MIN, MAX}) {
            for (int what = 0; what < 2; what++) {
                due("join(" + c + ", 0, " + what + ")", x.join(c, 0, what), -1);
                due("join(0, " + c + ", " + what + ")", x.join(0, c, what), -1);
                due("join(" + c + ", " + c + ", " + what + ")", x.join(c, c, what), -1);
            }
        }
    }

    private static void wovenPieces() {
        Checks.says("a COPY c cut into the fewest pieces (lines one behind the other), each of which lies, "
                + "without STEPS, as those lines do in COPY a or in COPY b (which has all of them)");
        CopyOrders x = Checks.with("lines 5;copy p abcde;copy q edcba;copy r cdeab;copy s bd;copy t bde;copy u ac;"
                + "copy v abedc;copy w abced;");
        due("c is a", x.woven(0, 1, 0), 1);
        due("c is b", x.woven(1, 0, 0), 1);
        due("cde and ab", x.woven(0, 0, 2), 2);
        due("each line alone", x.woven(0, 0, 1), 5);
        due("lines between are left out", x.woven(0, 0, 3), 1);
        due("bde in abcde, though not as one row", x.woven(0, 1, 4), 1);
        due("ab by p, edc by q", x.woven(0, 1, 6), 2);
        due("abce by p, d", x.woven(0, 0, 7), 2);
        due("abce by p, d by either", x.woven(0, 1, 7), 2);
        due("ab and cde", x.woven(2, 2, 0), 2);
        due("a by u, bd by s, c by u, no e", x.woven(5, 3, 0), -1);
        due("a by u, bde by t, as far as c", x.woven(5, 4, 5), 1);
        due("b by t, d by t", x.woven(4, 5, 3), 1);
        for (int n = 2; n <= 7; n++) {
            StringBuilder rising = new StringBuilder("abcdefg".substring(0, n));
            x = Checks.with("lines " + n + ";copy p " + rising + ";copy q " + rising.reverse() + ";");
            due("each of " + n + " alone", x.woven(0, 0, 1), n);
            due("all " + n + " at once", x.woven(1, 0, 1), 1);
        }
    }

    private static void woven() {
        Checks.says("WOVEN: how many pieces; NONE: none; -2: no such COPIES.");
        CopyOrders x = Checks.with("copy p abc;copy q bcd;copy r abcd;copy s d;copy t dcba;");
        due("abc and d", x.woven(0, 1, 2), 2);
        due("d is in neither", x.woven(0, 0, 2), -1);
        due("d is in neither, ahead", x.woven(0, 0, 4), -1);
        due("d alone is in neither", x.woven(0, 0, 3), -1);
        due("d alone", x.woven(0, 1, 3), 1);
        due("each alone", x.woven(0, 1, 4), 4);
        due("a is in neither", x.woven(1, 3, 0), -1);
        for (int c : new int[] {-1, 5, 10, MIN, MAX}) {
            due("woven(" + c + ", 0, 0)", x.woven(c, 0, 0), -2);
            due("woven(0, " + c + ", 0)", x.woven(0, c, 0), -2);
            due("woven(0, 0, " + c + ")", x.woven(0, 0, c), -2);
        }
        due("of none: -2 though d is in neither", x.woven(0, 5, 2), -2);
    }
}
