import java.util.Arrays;
import java.util.NoSuchElementException;

/** A desk that changes two lines about; ../shared/DOC.md tells what every word here means. */
public final class CopyOrders {
    public static final int NONE = -1;

    /** The answer of likeliest() and woven() where NONE says something else already. */
    private static final int NO_SUCH = -2;
    /** The k of nearest() that asks for the sum or the worst. */
    private static final int ASKS_VALUE = -2;

    private static final int TAPE_ROOM = 740;
    private static final int HOUSE_ROOM = 700;
    private static final int SENTENCE_ROOM = 200;
    private static final int IMAGES = 2;

    private static final int LEAST_LINES = 2;
    private static final int MOST_LINES = 7;
    private static final int LINES_WITHOUT = 4;
    private static final int MOST_COPIES = 10;
    private static final int MOST_DESKS = 6;
    private static final int MOST_PAIRS = 12;
    private static final int MOST_GAIN = 99;
    private static final int MOST_ONES = 20;
    private static final int MOST_WITHIN = 8;

    private static final int MOST_IN_TREE = 9;
    private static final int MOST_COPYINGS = 10;
    private static final int MOST_LATER = 5;
    private static final int MOST_DRAWS = 100;
    private static final int MOST_HELD = 9;
    private static final int MOST_STEPS = 21;
    private static final int FAR_OF_FALLEN = 3;
    /** Above every sum of FARS. */
    private static final int ABOVE_ALL = 1000000;

    private static final int FAULT_TOKEN = 1;
    private static final int FAULT_VALUE = 2;
    private static final int FAULT_NAME = 3;
    private static final int FAULT_MANY = 4;

    private static final int[] FACTORIALS = {1, 1, 2, 6, 24, 120, 720, 5040};
    private static final int[] LIKE_WEIGHTS = {1, 1, 1, 1, 1, 1};
    private static final Word[] WORDS = Word.values();

    private final byte[] tape = new byte[TAPE_ROOM];
    private int tapeLength;
    private House told = new House();
    /** What house() reads into, so that a FAULT leaves the HOUSE as it was. */
    private House draft = new House();
    private Sentence draftSentence = new Sentence();
    private final House[] images = new House[IMAGES];
    /** By N, each made when first needed. */
    private final Orders[] tables = new Orders[MOST_LINES + 1];
    private final Tokens tokens = new Tokens(tape);
    private final HouseReader houseReader = new HouseReader(tokens);
    private final SentenceReader sentenceReader = new SentenceReader(tokens);
    private final Family family = new Family();
    private final int[] markRow = new int[MOST_LINES];
    private int latestFault;
    private long latestLikely;

    /** A HOUSE of 4 lines, nothing else; an empty tape. */
    public CopyOrders() {
    }

    /** Twenty bytes come behind the tape, of each number the highest first. */
    public int feed(int a, int b, int c, int d, int e) {
        if (tapeLength + 20 > TAPE_ROOM) {
            return NONE;
        }
        putNumber(a);
        putNumber(b);
        putNumber(c);
        putNumber(d);
        putNumber(e);
        return tapeLength;
    }

    /** The tape keeps its first n bytes alone. */
    public boolean end(int n) {
        if (n < 0 || n > tapeLength) {
            return false;
        }
        tapeLength = n;
        return true;
    }

    /** The tape is the HOUSE now: how many LINES, or -1 less the place of a FAULT. */
    public int house() {
        tokens.open(takeTape(), HOUSE_ROOM);
        int lines = houseReader.read(draft);
        latestFault = tokens.faultKind;
        if (latestFault != 0) {
            return -1 - tokens.faultPlace;
        }
        House before = told;
        told = draft;
        draft = before;
        return lines;
    }

    /** The kind of the FAULT of the latest house() or sentence(). */
    public int fault() {
        return latestFault;
    }

    /** The line at place i of COPY c. */
    public int line(int c, int i) throws NoSuchElementException {
        Copy copy = told.copyAt(c);
        if (copy == null || i < 0 || i >= copy.length) {
            throw new NoSuchElementException();
        }
        return lineOf(copy.packed, i);
    }

    /** How many lines COPY c has. */
    public int size(int c) {
        Copy copy = told.copyAt(c);
        return copy == null ? NONE : copy.length;
    }

    /** The tape's lines are a COPY more, without a NAME. */
    public int add() {
        int length = takeTape();
        Copy copy = told.nextCopy();
        if (copy == null || length < 1) {
            return NONE;
        }
        for (int i = 0; i < length; i++) {
            int line = byteAt(i);
            if (line >= told.lines || copy.hasLine(line)) {
                return NONE;
            }
            copy.append(line);
        }
        told.copies++;
        return told.copies - 1;
    }

    /** The line at place i of ORDER x. */
    public int order(int x, int i) {
        Orders orders = orders();
        if (!orders.has(x) || i < 0 || i >= orders.lines) {
            return NONE;
        }
        return lineOf(orders.packed[x], i);
    }

    /** STEPS (0), FALLEN (1) or FAR (2) of two COPIES. */
    public int between(int a, int b, int what) {
        Copy one = told.copyAt(a);
        Copy other = told.copyAt(b);
        if (one == null || other == null) {
            return NONE;
        }
        switch (what) {
            case 0:
                return one.stepsTo(other);
            case 1:
                return one.fallenTo(other);
            case 2:
                return one.farTo(other);
            default:
                return NONE;
        }
    }

    /** The DESKS that may have made COPY b from COPY a at once, as bits. */
    public int made(int a, int b) {
        Copy from = told.copyAt(a);
        Copy to = told.copyAt(b);
        if (from == null || to == null) {
            return NONE;
        }
        int bits = 0;
        for (int d = 0; d < told.desks && d < MOST_DESKS; d++) {
            if (told.deskRows[d].mayMake(from, to)) {
                bits |= 1 << d;
            }
        }
        return bits;
    }

    /** The fewest copyings by DESK d from COPY a to COPY b. */
    public int fewest(int a, int b, int d) {
        Copy from = told.wholeAt(a);
        Copy to = told.wholeAt(b);
        Desk desk = told.deskAt(d);
        if (from == null || to == null || desk == null) {
            return NONE;
        }
        return desk.fewestFor(from.stepsTo(to));
    }

    /** Whether just k copyings by DESK d may lie between COPY a and COPY b. */
    public int just(int a, int b, int d, int k) {
        Copy from = told.wholeAt(a);
        Copy to = told.wholeAt(b);
        Desk desk = told.deskAt(d);
        if (from == null || to == null || desk == null || k < 0) {
            return NONE;
        }
        return desk.mayTake(from.stepsTo(to), k) ? 1 : 0;
    }

    /** The first of the tape's COPIES that DESK d may not have made from the one ahead. */
    public int judge(int d) {
        int length = takeTape();
        Desk desk = told.deskAt(d);
        if (desk == null || length < 2 || !areCopies(length)) {
            return NONE;
        }
        for (int i = 1; i < length; i++) {
            Copy from = told.copyAt(byteAt(i - 1));
            Copy to = told.copyAt(byteAt(i));
            if (from == null || to == null || !desk.mayMake(from, to)) {
                return i;
            }
        }
        return 0;
    }

    /** NEAREST in sum or in worst: how many, the sum or worst, or the k-th one's number. */
    public int nearest(int how, int k) {
        if (how < 0 || how > 1 || told.copies == 0) {
            return NONE;
        }
        Orders orders = orders();
        int least = farFromAll(orders, 0, how);
        for (int x = 1; x < orders.total; x++) {
            least = Math.min(least, farFromAll(orders, x, how));
        }
        if (k == ASKS_VALUE) {
            return least;
        }
        int seen = 0;
        for (int x = 0; x < orders.total; x++) {
            if (farFromAll(orders, x, how) == least) {
                if (seen == k) {
                    return x;
                }
                seen++;
            }
        }
        return k == NONE ? seen : NONE;
    }

    /** The sum of the TREE of the tape's COPIES. */
    public int tree() {
        int length = takeTape();
        if (length < 1 || length > MOST_IN_TREE || !areCopies(length) || !areUnlike(length)) {
            return NONE;
        }
        family.open();
        for (int i = 0; i < length; i++) {
            family.admit(byteAt(i));
        }
        family.measure(told);
        return family.settle();
    }

    /** From which COPY the i-th one of the latest TREE was copied. */
    public int from(int i) {
        return family.sourceOf(i);
    }

    /** MISSING of the latest TREE's COPIES: its number (0) or the sum then (1). */
    public int missing(int what) {
        if (what < 0 || what > 1 || family.members == 0 || !family.measure(told)) {
            return NONE;
        }
        Orders orders = orders();
        int least = family.span(family.members);
        int found = NONE;
        for (int x = 0; x < orders.total; x++) {
            int sum = family.spanWith(told, orders, x);
            if (sum < least) {
                least = sum;
                found = x;
            }
        }
        return found == NONE || what == 0 ? found : least;
    }

    /** WAYS from ORDER x to ORDER y after k copyings. */
    public long ways(int x, int y, int k) {
        Orders orders = orders();
        if (!orders.has(x) || !orders.has(y) || !isWithin(k, MOST_COPYINGS)) {
            return NONE;
        }
        orders.spread(x, k, told.weights);
        return orders.now[y];
    }

    /** LIKELIEST first for COPY a after k copyings and COPY b after m. */
    public int likeliest(int a, int k, int b, int m) {
        Copy one = told.wholeAt(a);
        Copy other = told.wholeAt(b);
        if (one == null || other == null || !isWithin(k, MOST_LATER) || !isWithin(m, MOST_LATER)) {
            return NO_SUCH;
        }
        Orders orders = orders();
        orders.spread(orders.numberOf(one), k, told.weights);
        orders.keep();
        orders.spread(orders.numberOf(other), m, told.weights);
        long most = 0;
        int found = NONE;
        for (int x = 0; x < orders.total; x++) {
            long product = orders.kept[x] * orders.now[x];
            if (product > most) {
                most = product;
                found = x;
            }
        }
        if (found != NONE) {
            latestLikely = most;
        }
        return found;
    }

    /** The product by the latest likeliest() that was 0 or above. */
    public long likely() {
        return latestLikely;
    }

    /** From how many ORDERS there are WAYS to ORDER y after k copyings. */
    public int firsts(int y, int k) {
        Orders orders = orders();
        if (!orders.has(y) || !isWithin(k, MOST_COPYINGS)) {
            return NONE;
        }
        // WAYS there and back are alike: the same exchanges, the last one first.
        orders.spread(y, k, told.weights);
        int count = 0;
        for (int x = 0; x < orders.total; x++) {
            if (orders.now[x] > 0) {
                count++;
            }
        }
        return count;
    }

    /** The number of the order DRAWN from ORDER x by k copyings. */
    public int drawn(int x, int k, int seed) {
        Orders orders = orders();
        int all = told.allWeights();
        if (!orders.has(x) || !isWithin(k, MOST_DRAWS) || all <= 0) {
            return NONE;
        }
        int at = x;
        int state = seed;
        for (int i = 0; i < k; i++) {
            state = state * 1103515245 + 12345;
            at = orders.exchanged(at, told.placeDrawn((state >>> 8) % all));
        }
        return at;
    }

    /** How many rows of k exchanges come back to where they began. */
    public int again(int k) {
        if (!isWithin(k, MOST_COPYINGS)) {
            return NONE;
        }
        Orders orders = orders();
        orders.spread(0, k, LIKE_WEIGHTS);
        return (int) orders.now[0];
    }

    /** LONG after k copyings from ORDER x: above (0) or below (1). */
    public long along(int x, int k, int what) throws NoSuchElementException {
        Orders orders = orders();
        if (!orders.has(x) || !isWithin(k, MOST_COPYINGS) || what < 0 || what > 1) {
            throw new NoSuchElementException();
        }
        orders.spread(x, k, told.weights);
        long below = orders.allWays();
        if (below <= 0) {
            throw new NoSuchElementException();
        }
        long above = orders.allWaysFar(x);
        long common = commonDivisor(above, below);
        if (common <= 0) {
            throw new NoSuchElementException();
        }
        return (what == 0 ? above : below) / common;
    }

    /** Whether the tape's bytes, as MARKS, HOLD k steps. */
    public int holds(int k) {
        int length = takeTape();
        if (!isWithin(k, MOST_HELD) || length != told.lines) {
            return NONE;
        }
        for (int i = 0; i < length && i < MOST_LINES; i++) {
            markRow[i] = byteAt(i);
        }
        return orders().marksHold(markRow, k) ? 1 : 0;
    }

    /** The fewest MARKS in turn that HOLD k steps. */
    public int marks(int k) {
        if (!isWithin(k, MOST_HELD)) {
            return NONE;
        }
        Orders orders = orders();
        for (int m = 1; m <= told.lines; m++) {
            for (int i = 0; i < told.lines && i < MOST_LINES; i++) {
                markRow[i] = i % m;
            }
            if (orders.marksHold(markRow, k)) {
                return m;
            }
        }
        return NONE;
    }

    /** Whole orders that HOLD the SENSE: how many, or the k-th one's number. */
    public int sense(int k) {
        Orders orders = orders();
        int seen = 0;
        for (int x = 0; x < orders.total; x++) {
            if (told.keepsSense(orders.turned[x], orders.allPairs)) {
                if (seen == k) {
                    return x;
                }
                seen++;
            }
        }
        return k == NONE ? seen : NONE;
    }

    /** COPY c MENDED: the order's number (0) or how FAR (1). */
    public int mended(int c, int what) {
        Copy copy = told.copyAt(c);
        if (copy == null || what < 0 || what > 1) {
            return NONE;
        }
        Orders orders = orders();
        int least = ABOVE_ALL;
        int found = NONE;
        for (int x = 0; x < orders.total; x++) {
            int far = orders.farTo(x, copy);
            if (far < least && told.keepsSense(orders.turned[x], orders.allPairs)) {
                least = far;
                found = x;
            }
        }
        return found == NONE || what == 0 ? found : least;
    }

    /** SONG of ORDER x. */
    public int song(int x) {
        Orders orders = orders();
        return orders.has(x) ? told.songOf(orders.packed[x], orders.lines) : NONE;
    }

    /** BETTER of COPY c within k STEPS: the order's number. */
    public int better(int c, int k) {
        Copy copy = told.wholeAt(c);
        if (copy == null || !isWithin(k, MOST_STEPS)) {
            return NONE;
        }
        Orders orders = orders();
        int most = -1;
        int least = 0;
        int found = NONE;
        for (int x = 0; x < orders.total; x++) {
            int steps = orders.stepsTo(x, copy);
            if (steps <= k) {
                int gain = told.songOf(orders.packed[x], orders.lines);
                if (gain > most || gain == most && steps < least) {
                    most = gain;
                    least = steps;
                    found = x;
                }
            }
        }
        return found;
    }

    /** JOIN of two COPIES: its number (0) or the STEPS together (1). */
    public int join(int a, int b, int what) {
        Copy one = told.copyAt(a);
        Copy other = told.copyAt(b);
        if (one == null || other == null || what < 0 || what > 1) {
            return NONE;
        }
        Orders orders = orders();
        int least = ABOVE_ALL;
        int found = NONE;
        for (int x = 0; x < orders.total; x++) {
            int steps = orders.stepsTo(x, one) + orders.stepsTo(x, other);
            if (steps < least) {
                least = steps;
                found = x;
            }
        }
        return what == 0 ? found : least;
    }

    /** WOVEN: into how few pieces of COPY a and COPY b COPY c can be cut. */
    public int woven(int a, int b, int c) {
        Copy one = told.copyAt(a);
        Copy other = told.copyAt(b);
        Copy cut = told.copyAt(c);
        if (one == null || other == null || cut == null) {
            return NO_SUCH;
        }
        int pieces = 0;
        int at = 0;
        for (int i = 0; i < MOST_LINES && at < cut.length; i++) {
            // A part of a piece is a piece too, so the longest one is never the worse.
            int to = Math.max(one.pieceEnd(cut, at), other.pieceEnd(cut, at));
            if (to <= at) {
                return NONE;
            }
            at = to;
            pieces++;
        }
        return pieces;
    }

    /** The tape is the SENTENCE now: how many ONES, or -1 less the place of a FAULT. */
    public int sentence() {
        tokens.open(takeTape(), SENTENCE_ROOM);
        int ones = sentenceReader.read(draftSentence, told);
        latestFault = tokens.faultKind;
        if (latestFault != 0) {
            return -1 - tokens.faultPlace;
        }
        Sentence before = told.sentence;
        told.sentence = draftSentence;
        draftSentence = before;
        return ones;
    }

    /** The COPIES of which the SENTENCE may be said, as bits. */
    public int said() {
        if (told.sentence.length == 0) {
            return NONE;
        }
        int bits = 0;
        for (int c = 0; c < told.copies && c < MOST_COPIES; c++) {
            if (told.sentence.isTrueOf(told.copyRows[c], told)) {
                bits |= 1 << c;
            }
        }
        return bits;
    }

    /** HOUSE and SENTENCE are kept in place k. */
    public boolean image(int k) {
        if (k < 0 || k >= IMAGES) {
            return false;
        }
        if (images[k] == null) {
            images[k] = new House();
        }
        images[k].become(told);
        return true;
    }

    /** HOUSE and SENTENCE are as kept in place k. */
    public boolean restore(int k) {
        if (k < 0 || k >= IMAGES || images[k] == null) {
            return false;
        }
        told.become(images[k]);
        return true;
    }

    /** How many there are of what the number asks for. */
    public int count(int what) {
        switch (what) {
            case 0:
                return told.lines;
            case 1:
                return told.copies;
            case 2:
                return told.desks;
            case 3:
                return factorial(told.lines);
            case 4:
                return told.senses;
            case 5:
                return told.rhymes;
            case 6:
                return tapeLength;
            default:
                return NONE;
        }
    }

    private void putNumber(int number) {
        for (int shift = 24; shift >= 0 && tapeLength < TAPE_ROOM; shift -= 8) {
            tape[tapeLength] = (byte) (number >>> shift);
            tapeLength++;
        }
    }

    /** How many bytes the tape had; it is empty now, but they can be read until the next feed(). */
    private int takeTape() {
        int length = tapeLength;
        tapeLength = 0;
        return length;
    }

    private int byteAt(int i) {
        return i >= 0 && i < TAPE_ROOM ? tape[i] & 255 : 0;
    }

    private boolean areCopies(int length) {
        for (int i = 0; i < length; i++) {
            if (byteAt(i) >= told.copies) {
                return false;
            }
        }
        return true;
    }

    private boolean areUnlike(int length) {
        for (int i = 0; i < length; i++) {
            for (int j = 0; j < i; j++) {
                if (byteAt(i) == byteAt(j)) {
                    return false;
                }
            }
        }
        return true;
    }

    private Orders orders() {
        int lines = Math.max(LEAST_LINES, Math.min(MOST_LINES, told.lines));
        if (tables[lines] == null) {
            tables[lines] = new Orders(lines);
        }
        return tables[lines];
    }

    /** The FARS from order x to all COPIES: together (how 0), or the greatest (how 1). */
    private int farFromAll(Orders orders, int x, int how) {
        int sum = 0;
        int worst = 0;
        for (int c = 0; c < told.copies && c < MOST_COPIES; c++) {
            int far = orders.farTo(x, told.copyRows[c]);
            sum += far;
            worst = Math.max(worst, far);
        }
        return how == 0 ? sum : worst;
    }

    private static int factorial(int n) {
        return n >= 0 && n < FACTORIALS.length ? FACTORIALS[n] : 1;
    }

    private static boolean isWithin(int k, int most) {
        return k >= 0 && k <= most;
    }

    private static long commonDivisor(long a, long b) {
        long high = a;
        long low = b;
        // Each two rounds halve the higher number at least: 63 bits end long before.
        for (int i = 0; i < 200 && low > 0; i++) {
            long rest = high % low;
            high = low;
            low = rest;
        }
        return high;
    }

    /** The line at place i of an order packed as four bits a place. */
    private static int lineOf(int packed, int i) {
        return packed >>> (4 * i) & 15;
    }

    /** The bit that stands for two unlike lines, whichever is named first. */
    private static int pairBit(int a, int b) {
        int high = Math.max(a, b);
        return 1 << (high * (high - 1) / 2 + Math.min(a, b));
    }

    /** The words that the texts are made of; OTHER stands for every other one, such as a NAME. */
    private enum Word {
        OTHER("", false), LINES("lines", false), COPY("copy", false), DESK("desk", false),
        SWAP("swap", false), MOST("most", false), DROPS("drops", false), LIKELY("likely", false),
        SENSE("sense", false), RHYME("rhyme", false), OR("or", false), AND("and", false),
        NOT("not", true), WHOLE("whole", true), HOLDS("holds", true), HAS("has", true),
        AHEAD("ahead", true), FAR("far", true), STEPS("steps", true), SONG("song", true),
        SIZE("size", true);

        final long code;
        final boolean startsOne;

        Word(String text, boolean startsOne) {
            long letters = 0;
            for (int i = 0; i < text.length(); i++) {
                letters = letters * 32 + (text.charAt(i) - 'a' + 1);
            }
            this.code = letters;
            this.startsOne = startsOne;
        }
    }

    /** The TOKENS of a text, one after the other, and its first FAULT. */
    private static final class Tokens {
        static final int END = 0;
        static final int BAD = 1;
        static final int WORD = 2;
        static final int NUMBER = 3;
        static final int SIGN = 4;

        private static final int MOST_LETTERS = 7;
        private static final int MOST_DIGITS = 2;

        private final byte[] text;
        private int length;
        private int room;
        /** Where the token begins, and where what is behind it does. */
        private int start;
        private int next;
        int kind;
        long code;
        Word keyword = Word.OTHER;
        int sign;
        private int value;
        int faultKind;
        int faultPlace;

        Tokens(byte[] text) {
            this.text = text;
        }

        void open(int bytes, int most) {
            length = Math.min(bytes, text.length);
            room = most;
            next = 0;
            faultKind = 0;
            faultPlace = 0;
            advance();
        }

        void advance() {
            int stop = Math.min(length, room);
            int at = next;
            while (at < stop && isBlank(text[at])) {
                at++;
            }
            keyword = Word.OTHER;
            sign = 0;
            code = 0;
            value = 0;
            if (at >= stop) {
                start = stop;
                next = stop;
                kind = length > room ? BAD : END;
                return;
            }
            start = at;
            if (isLetter(text[at]) || isDigit(text[at])) {
                readRun();
            } else {
                readSign();
            }
        }

        /** Notes the first FAULT at this token; always false, so that a reader can return it. */
        boolean fail(int fault) {
            if (faultKind == 0) {
                faultKind = fault;
                faultPlace = start;
            }
            return false;
        }

        /** This token's number; NONE, and a FAULT, if it is none from low to high. */
        int numberHere(int low, int high) {
            if (kind != NUMBER) {
                fail(FAULT_TOKEN);
                return NONE;
            }
            if (value < low || value > high) {
                fail(FAULT_VALUE);
                return NONE;
            }
            return value;
        }

        /** This token's line; NONE, and a FAULT, if it is no word of one of the first letters. */
        int letterHere(int lines) {
            if (kind != WORD) {
                fail(FAULT_TOKEN);
                return NONE;
            }
            if (code > lines) {
                fail(FAULT_VALUE);
                return NONE;
            }
            return (int) code - 1;
        }

        boolean isName() {
            return kind == WORD && keyword == Word.OTHER;
        }

        /** Passes a sign that must come. */
        boolean passSign(int due) {
            if (sign != due) {
                return fail(FAULT_TOKEN);
            }
            advance();
            return true;
        }

        private void readRun() {
            int letters = 0;
            int digits = 0;
            int at = start;
            while (at < length && (isLetter(text[at]) || isDigit(text[at]))) {
                if (isLetter(text[at])) {
                    letters++;
                    code = code * 32 + (text[at] - 'a' + 1);
                } else {
                    digits++;
                    value = value * 10 + (text[at] - '0');
                }
                at++;
            }
            next = at;
            kind = BAD;
            if (digits == 0 && letters <= MOST_LETTERS) {
                kind = WORD;
                keyword = wordOf(code);
            } else if (letters == 0 && digits <= MOST_DIGITS) {
                kind = NUMBER;
            }
        }

        private void readSign() {
            int c = text[start];
            boolean known = c == ';' || c == '<' || c == '=' || c == '>' || c == '(' || c == ')';
            kind = known ? SIGN : BAD;
            sign = known ? c : 0;
            next = start + 1;
        }

        private static Word wordOf(long code) {
            for (Word word : WORDS) {
                if (word.code == code) {
                    return word;
                }
            }
            return Word.OTHER;
        }

        private static boolean isBlank(int c) {
            return c == 32 || c == 10;
        }

        private static boolean isLetter(int c) {
            return c >= 'a' && c <= 'z';
        }

        private static boolean isDigit(int c) {
            return c >= '0' && c <= '9';
        }
    }

    /** A COPY: its lines, and for all pairs of them which line comes first. */
    private static final class Copy {
        /** The letters of its NAME as a number; 0 without one. */
        long name;
        int length;
        /** Four bits a place. */
        int packed;
        /** One bit a line that it has. */
        int lineBits;
        /** The pairs both lines of which it has, and those of them with the higher line ahead. */
        int pairs;
        int turned;

        void clear() {
            name = 0;
            length = 0;
            packed = 0;
            lineBits = 0;
            pairs = 0;
            turned = 0;
        }

        void become(Copy other) {
            name = other.name;
            length = other.length;
            packed = other.packed;
            lineBits = other.lineBits;
            pairs = other.pairs;
            turned = other.turned;
        }

        boolean hasLine(int line) {
            return (lineBits >>> line & 1) != 0;
        }

        void append(int line) {
            for (int i = 0; i < length; i++) {
                int ahead = lineOf(packed, i);
                int bit = pairBit(ahead, line);
                pairs |= bit;
                if (ahead > line) {
                    turned |= bit;
                }
            }
            packed |= line << (4 * length);
            lineBits |= 1 << line;
            length++;
        }

        int stepsTo(Copy other) {
            return Integer.bitCount((turned ^ other.turned) & pairs & other.pairs);
        }

        int fallenTo(Copy other) {
            return Integer.bitCount(lineBits ^ other.lineBits);
        }

        int farTo(Copy other) {
            return stepsTo(other) + FAR_OF_FALLEN * fallenTo(other);
        }

        boolean isAhead(int a, int b) {
            if (a == b || !hasLine(a) || !hasLine(b)) {
                return false;
            }
            return ((turned & pairBit(a, b)) != 0) == (a > b);
        }

        /** The place of a line; NONE, if it is not there. */
        int placeOf(int line) {
            for (int i = 0; i < length; i++) {
                if (lineOf(packed, i) == line) {
                    return i;
                }
            }
            return NONE;
        }

        /** Where the longest row of lines of a cut copy from a place on ends that lies so here. */
        int pieceEnd(Copy cut, int at) {
            int behind = NONE;
            for (int i = at; i < cut.length; i++) {
                int place = placeOf(lineOf(cut.packed, i));
                if (place <= behind) {
                    return i;
                }
                behind = place;
            }
            return cut.length;
        }
    }

    /** A DESK: how it copies, at most how many exchanges, and its NAME. */
    private static final class Desk {
        Word way = Word.SWAP;
        int limit = 1;
        long name;

        void become(Desk other) {
            way = other.way;
            limit = other.limit;
            name = other.name;
        }

        boolean mayMake(Copy from, Copy to) {
            int steps = from.stepsTo(to);
            boolean sameLines = from.lineBits == to.lineBits;
            switch (way) {
                case SWAP:
                    return sameLines && steps == 1;
                case MOST:
                    return sameLines && steps <= limit;
                default:
                    return steps == 0 && to.length == from.length - 1
                            && (to.lineBits & ~from.lineBits) == 0;
            }
        }

        /** The fewest copyings over so many STEPS between whole orders; NONE, if none do. */
        int fewestFor(int steps) {
            switch (way) {
                case SWAP:
                    return steps;
                case MOST:
                    return limit > 0 ? (steps + limit - 1) / limit : NONE;
                default:
                    return steps == 0 ? 0 : NONE;
            }
        }

        /** Whether just k copyings may make so many STEPS between whole orders. */
        boolean mayTake(int steps, int k) {
            switch (way) {
                case SWAP:
                    return k >= steps && (k - steps) % 2 == 0;
                case MOST:
                    return k >= fewestFor(steps);
                default:
                    return k == 0 && steps == 0;
            }
        }
    }

    /** A HOUSE with the COPIES added to it, and its SENTENCE. */
    private static final class House {
        int lines = LINES_WITHOUT;
        int copies;
        final Copy[] copyRows = new Copy[MOST_COPIES];
        int desks;
        final Desk[] deskRows = new Desk[MOST_DESKS];
        /** The W of each place, the first at 0. */
        final int[] weights = new int[MOST_LINES - 1];
        int senses;
        private final int[] senseAhead = new int[MOST_PAIRS];
        private final int[] senseBehind = new int[MOST_PAIRS];
        int rhymes;
        /** The G of A and B at A times 7 and B; 0 without. */
        private final int[] gains = new int[MOST_LINES * MOST_LINES];
        Sentence sentence = new Sentence();

        House() {
            for (int i = 0; i < MOST_COPIES; i++) {
                copyRows[i] = new Copy();
            }
            for (int i = 0; i < MOST_DESKS; i++) {
                deskRows[i] = new Desk();
            }
            Arrays.fill(weights, 1);
        }

        void clear() {
            lines = LINES_WITHOUT;
            copies = 0;
            desks = 0;
            Arrays.fill(weights, 1);
            senses = 0;
            rhymes = 0;
            Arrays.fill(gains, 0);
            sentence.clear();
        }

        void become(House other) {
            lines = other.lines;
            copies = other.copies;
            for (int i = 0; i < MOST_COPIES; i++) {
                copyRows[i].become(other.copyRows[i]);
            }
            desks = other.desks;
            for (int i = 0; i < MOST_DESKS; i++) {
                deskRows[i].become(other.deskRows[i]);
            }
            System.arraycopy(other.weights, 0, weights, 0, weights.length);
            senses = other.senses;
            System.arraycopy(other.senseAhead, 0, senseAhead, 0, MOST_PAIRS);
            System.arraycopy(other.senseBehind, 0, senseBehind, 0, MOST_PAIRS);
            rhymes = other.rhymes;
            System.arraycopy(other.gains, 0, gains, 0, gains.length);
            sentence.become(other.sentence);
        }

        /** COPY c; null, if there is none. */
        Copy copyAt(int c) {
            return c >= 0 && c < copies && c < MOST_COPIES ? copyRows[c] : null;
        }

        /** COPY c, if it is WHOLE; null otherwise. */
        Copy wholeAt(int c) {
            Copy copy = copyAt(c);
            return copy != null && copy.length == lines ? copy : null;
        }

        /** The empty COPY that is next, not counted yet; null, if there is no room. */
        Copy nextCopy() {
            if (copies >= MOST_COPIES) {
                return null;
            }
            copyRows[copies].clear();
            return copyRows[copies];
        }

        /** DESK d; null, if there is none. */
        Desk deskAt(int d) {
            return d >= 0 && d < desks && d < MOST_DESKS ? deskRows[d] : null;
        }

        /** The DESK that is next, not counted yet; null, if there is no room. */
        Desk nextDesk() {
            return desks < MOST_DESKS ? deskRows[desks] : null;
        }

        /** The number of the COPY of a NAME; NONE, if there is none. */
        int copyNamed(long name) {
            for (int c = 0; c < copies && c < MOST_COPIES; c++) {
                if (copyRows[c].name == name) {
                    return c;
                }
            }
            return NONE;
        }

        boolean isNamed(long name) {
            for (int d = 0; d < desks && d < MOST_DESKS; d++) {
                if (deskRows[d].name == name) {
                    return true;
                }
            }
            return copyNamed(name) != NONE;
        }

        boolean hasSense(int a, int b) {
            for (int i = 0; i < senses && i < MOST_PAIRS; i++) {
                if (senseAhead[i] == a && senseBehind[i] == b) {
                    return true;
                }
            }
            return false;
        }

        void putSense(int a, int b) {
            if (senses < MOST_PAIRS) {
                senseAhead[senses] = a;
                senseBehind[senses] = b;
                senses++;
            }
        }

        int gainOf(int a, int b) {
            int at = a * MOST_LINES + b;
            return at >= 0 && at < gains.length ? gains[at] : 0;
        }

        void putRhyme(int a, int b, int gain) {
            int at = a * MOST_LINES + b;
            if (at >= 0 && at < gains.length) {
                gains[at] = gain;
                rhymes++;
            }
        }

        /** Whether an order told by its pairs HOLDS the SENSE. */
        boolean keepsSense(int turned, int pairs) {
            for (int i = 0; i < senses && i < MOST_PAIRS; i++) {
                int bit = pairBit(senseAhead[i], senseBehind[i]);
                boolean higherAhead = (turned & bit) != 0;
                boolean higherDue = senseAhead[i] > senseBehind[i];
                if ((pairs & bit) != 0 && higherAhead != higherDue) {
                    return false;
                }
            }
            return true;
        }

        int songOf(int packed, int length) {
            int sum = 0;
            for (int i = 1; i < length; i++) {
                sum += gainOf(lineOf(packed, i - 1), lineOf(packed, i));
            }
            return sum;
        }

        int allWeights() {
            int sum = 0;
            for (int p = 0; p < lines - 1 && p < weights.length; p++) {
                sum += weights[p];
            }
            return sum;
        }

        /** The first place, from 0, for which the weights up to it are above a draw. */
        int placeDrawn(int draw) {
            int sum = 0;
            for (int p = 0; p < lines - 1 && p < weights.length; p++) {
                sum += weights[p];
                if (sum > draw) {
                    return p;
                }
            }
            return 0;
        }
    }

    /** Reads the text of a HOUSE. */
    private static final class HouseReader {
        private final Tokens tokens;
        private House house;
        /** Whether a line was told behind which 'lines' can't come. */
        private boolean linesClosed;
        /** One bit a place the likelihood of which was told. */
        private int placesTold;
        private int pairFirst;
        private int pairSecond;

        HouseReader(Tokens tokens) {
            this.tokens = tokens;
        }

        /** How many LINES were told; NONE after a FAULT. */
        int read(House into) {
            house = into;
            house.clear();
            linesClosed = false;
            placesTold = 0;
            for (int told = 0; told <= TAPE_ROOM; told++) {
                if (tokens.kind == Tokens.END) {
                    return told;
                }
                if (!readLine() || !tokens.passSign(';')) {
                    return NONE;
                }
            }
            return NONE;
        }

        private boolean readLine() {
            switch (tokens.keyword) {
                case LINES:
                    return readLines();
                case COPY:
                    linesClosed = true;
                    return readCopy();
                case DESK:
                    return readDesk();
                case LIKELY:
                    linesClosed = true;
                    return readLikely();
                case SENSE:
                    linesClosed = true;
                    return readSense();
                case RHYME:
                    linesClosed = true;
                    return readRhyme();
                default:
                    return tokens.fail(FAULT_TOKEN);
            }
        }

        private boolean readLines() {
            if (linesClosed) {
                return tokens.fail(FAULT_NAME);
            }
            linesClosed = true;
            tokens.advance();
            int lines = tokens.numberHere(LEAST_LINES, MOST_LINES);
            if (lines == NONE) {
                return false;
            }
            house.lines = lines;
            tokens.advance();
            return true;
        }

        private boolean readCopy() {
            Copy copy = house.nextCopy();
            if (copy == null) {
                return tokens.fail(FAULT_MANY);
            }
            tokens.advance();
            if (!isFreshName()) {
                return false;
            }
            copy.name = tokens.code;
            tokens.advance();
            if (tokens.kind != Tokens.WORD) {
                return tokens.fail(FAULT_TOKEN);
            }
            if (!spell(copy)) {
                return tokens.fail(FAULT_VALUE);
            }
            house.copies++;
            tokens.advance();
            return true;
        }

        /** Whether the word is an ORDER; its lines are the copy's then. */
        private boolean spell(Copy copy) {
            for (int shift = 30; shift >= 0; shift -= 5) {
                int letter = (int) (tokens.code >>> shift & 31);
                if (letter > 0) {
                    if (letter > house.lines || copy.hasLine(letter - 1)) {
                        return false;
                    }
                    copy.append(letter - 1);
                }
            }
            return true;
        }

        private boolean readDesk() {
            Desk desk = house.nextDesk();
            if (desk == null) {
                return tokens.fail(FAULT_MANY);
            }
            tokens.advance();
            if (!isFreshName()) {
                return false;
            }
            desk.name = tokens.code;
            tokens.advance();
            desk.way = tokens.keyword;
            switch (tokens.keyword) {
                case SWAP:
                case DROPS:
                    break;
                case MOST:
                    tokens.advance();
                    desk.limit = tokens.numberHere(1, 9);
                    if (desk.limit == NONE) {
                        return false;
                    }
                    break;
                default:
                    return tokens.fail(FAULT_TOKEN);
            }
            house.desks++;
            tokens.advance();
            return true;
        }

        private boolean isFreshName() {
            if (!tokens.isName()) {
                return tokens.fail(FAULT_TOKEN);
            }
            if (house.isNamed(tokens.code)) {
                return tokens.fail(FAULT_NAME);
            }
            return true;
        }

        private boolean readLikely() {
            tokens.advance();
            int place = tokens.numberHere(1, house.lines - 1);
            if (place == NONE) {
                return false;
            }
            if ((placesTold >>> place & 1) != 0) {
                return tokens.fail(FAULT_NAME);
            }
            tokens.advance();
            int weight = tokens.numberHere(0, 9);
            if (weight == NONE) {
                return false;
            }
            placesTold |= 1 << place;
            if (place <= house.weights.length) {
                house.weights[place - 1] = weight;
            }
            tokens.advance();
            return true;
        }

        private boolean readSense() {
            if (house.senses >= MOST_PAIRS) {
                return tokens.fail(FAULT_MANY);
            }
            tokens.advance();
            if (!readPair()) {
                return false;
            }
            if (house.hasSense(pairFirst, pairSecond)) {
                return tokens.fail(FAULT_NAME);
            }
            house.putSense(pairFirst, pairSecond);
            tokens.advance();
            return true;
        }

        private boolean readRhyme() {
            if (house.rhymes >= MOST_PAIRS) {
                return tokens.fail(FAULT_MANY);
            }
            tokens.advance();
            if (!readPair()) {
                return false;
            }
            if (house.gainOf(pairFirst, pairSecond) != 0) {
                return tokens.fail(FAULT_NAME);
            }
            tokens.advance();
            int gain = tokens.numberHere(1, MOST_GAIN);
            if (gain == NONE) {
                return false;
            }
            house.putRhyme(pairFirst, pairSecond, gain);
            tokens.advance();
            return true;
        }

        /** Reads two unlike letters and stays at the second, at which a repeated pair is a FAULT. */
        private boolean readPair() {
            pairFirst = tokens.letterHere(house.lines);
            if (pairFirst == NONE) {
                return false;
            }
            tokens.advance();
            pairSecond = tokens.letterHere(house.lines);
            if (pairSecond == NONE) {
                return false;
            }
            return pairFirst != pairSecond || tokens.fail(FAULT_NAME);
        }
    }

    /** A SENTENCE as a row of tests and of the words that join the truths ahead of them. */
    private static final class Sentence {
        /** Each ONE is at most one entry, and each but one may have a word that joins it. */
        private static final int ROOM = 2 * MOST_ONES;

        int length;
        private final Word[] kinds = new Word[ROOM];
        /** Lines of 'has' and 'ahead'; the COPY of 'far' and 'steps' is the first. */
        private final int[] first = new int[ROOM];
        private final int[] second = new int[ROOM];
        private final int[] signs = new int[ROOM];
        private final int[] numbers = new int[ROOM];

        Sentence() {
            for (int i = 0; i < ROOM; i++) {
                kinds[i] = Word.OTHER;
            }
        }

        void clear() {
            length = 0;
        }

        void become(Sentence other) {
            length = other.length;
            for (int i = 0; i < ROOM; i++) {
                kinds[i] = other.kinds[i];
                first[i] = other.first[i];
                second[i] = other.second[i];
                signs[i] = other.signs[i];
                numbers[i] = other.numbers[i];
            }
        }

        void putTest(Word kind, int a, int b) {
            putMeasure(kind, a, b, 0, 0);
        }

        void putMeasure(Word kind, int a, int b, int sign, int number) {
            if (length < ROOM) {
                kinds[length] = kind;
                first[length] = a;
                second[length] = b;
                signs[length] = sign;
                numbers[length] = number;
                length++;
            }
        }

        boolean isTrueOf(Copy copy, House house) {
            // The truths not joined yet, the latest as the lowest bit: 20 ONES fit.
            int truths = 0;
            for (int i = 0; i < length && i < ROOM; i++) {
                int latest = truths & 1;
                switch (kinds[i]) {
                    case NOT:
                        truths ^= 1;
                        break;
                    case AND:
                        truths >>>= 1;
                        truths &= latest | ~1;
                        break;
                    case OR:
                        truths >>>= 1;
                        truths |= latest;
                        break;
                    default:
                        truths = truths << 1 | (isTest(i, copy, house) ? 1 : 0);
                        break;
                }
            }
            return (truths & 1) != 0;
        }

        private boolean isTest(int i, Copy copy, House house) {
            switch (kinds[i]) {
                case WHOLE:
                    return copy.length == house.lines;
                case HOLDS:
                    return house.keepsSense(copy.turned, copy.pairs);
                case HAS:
                    return copy.hasLine(first[i]);
                case AHEAD:
                    return copy.isAhead(first[i], second[i]);
                default:
                    return isMeasure(i, measureOf(i, copy, house));
            }
        }

        private int measureOf(int i, Copy copy, House house) {
            Copy other = house.copyAt(first[i]);
            switch (kinds[i]) {
                case FAR:
                    return other == null ? 0 : copy.farTo(other);
                case STEPS:
                    return other == null ? 0 : copy.stepsTo(other);
                case SONG:
                    return house.songOf(copy.packed, copy.length);
                default:
                    return copy.length;
            }
        }

        private boolean isMeasure(int i, int measure) {
            switch (signs[i]) {
                case '<':
                    return measure < numbers[i];
                case '=':
                    return measure == numbers[i];
                default:
                    return measure > numbers[i];
            }
        }
    }

    /** Reads the text of a SENTENCE. */
    private static final class SentenceReader {
        private final Tokens tokens;
        private Sentence sentence;
        private House house;
        private int ones;

        SentenceReader(Tokens tokens) {
            this.tokens = tokens;
        }

        /** How many ONES were told; NONE after a FAULT. */
        int read(Sentence into, House told) {
            sentence = into;
            sentence.clear();
            house = told;
            ones = 0;
            if (!readCondition(1)) {
                return NONE;
            }
            if (tokens.kind != Tokens.END) {
                tokens.fail(FAULT_TOKEN);
                return NONE;
            }
            return ones;
        }

        private boolean readCondition(int depth) {
            if (!readAll(depth)) {
                return false;
            }
            for (int i = 0; i < MOST_ONES && tokens.keyword == Word.OR; i++) {
                tokens.advance();
                if (!readAll(depth)) {
                    return false;
                }
                sentence.putTest(Word.OR, 0, 0);
            }
            return true;
        }

        private boolean readAll(int depth) {
            if (!readOne(depth)) {
                return false;
            }
            for (int i = 0; i < MOST_ONES && tokens.keyword == Word.AND; i++) {
                tokens.advance();
                if (!readOne(depth)) {
                    return false;
                }
                sentence.putTest(Word.AND, 0, 0);
            }
            return true;
        }

        private boolean readOne(int depth) {
            if (!tokens.keyword.startsOne && tokens.sign != '(') {
                return tokens.fail(FAULT_TOKEN);
            }
            if (ones >= MOST_ONES || depth > MOST_WITHIN) {
                return tokens.fail(FAULT_MANY);
            }
            ones++;
            Word kind = tokens.keyword;
            tokens.advance();
            switch (kind) {
                case NOT:
                    if (!readOne(depth + 1)) {
                        return false;
                    }
                    sentence.putTest(Word.NOT, 0, 0);
                    return true;
                case WHOLE:
                case HOLDS:
                    sentence.putTest(kind, 0, 0);
                    return true;
                case HAS:
                    return readHas();
                case AHEAD:
                    return readAhead();
                case FAR:
                case STEPS:
                    int copy = takeCopy();
                    return copy != NONE && readMeasure(kind, copy);
                case SONG:
                case SIZE:
                    return readMeasure(kind, NONE);
                default:
                    return readCondition(depth + 1) && tokens.passSign(')');
            }
        }

        private boolean readHas() {
            int line = tokens.letterHere(house.lines);
            if (line == NONE) {
                return false;
            }
            sentence.putTest(Word.HAS, line, 0);
            tokens.advance();
            return true;
        }

        private boolean readAhead() {
            int ahead = tokens.letterHere(house.lines);
            if (ahead == NONE) {
                return false;
            }
            tokens.advance();
            int behind = tokens.letterHere(house.lines);
            if (behind == NONE) {
                return false;
            }
            sentence.putTest(Word.AHEAD, ahead, behind);
            tokens.advance();
            return true;
        }

        /** Passes the NAME of a COPY: its number; NONE after a FAULT. */
        private int takeCopy() {
            if (!tokens.isName()) {
                tokens.fail(FAULT_TOKEN);
                return NONE;
            }
            int copy = house.copyNamed(tokens.code);
            if (copy == NONE) {
                tokens.fail(FAULT_NAME);
                return NONE;
            }
            tokens.advance();
            return copy;
        }

        private boolean readMeasure(Word kind, int copy) {
            int sign = tokens.sign;
            if (sign != '<' && sign != '=' && sign != '>') {
                return tokens.fail(FAULT_TOKEN);
            }
            tokens.advance();
            int number = tokens.numberHere(0, 99);
            if (number == NONE) {
                return false;
            }
            sentence.putMeasure(kind, copy, 0, sign, number);
            tokens.advance();
            return true;
        }
    }

    /** All whole orders of so many lines, and WAYS between them. */
    private static final class Orders {
        final int lines;
        final int total;
        final int allPairs;
        /** Of each order its lines, four bits a place, and the pairs with the higher line ahead. */
        final int[] packed;
        final int[] turned;
        /** The order after the exchange at each place, those of one order side by side. */
        private final int[] exchanges;
        /** WAYS to each order: those spread last, those of one copying more, those kept. */
        long[] now;
        private long[] later;
        final long[] kept;

        Orders(int n) {
            lines = Math.max(LEAST_LINES, Math.min(MOST_LINES, n));
            total = factorial(lines);
            allPairs = (1 << lines * (lines - 1) / 2) - 1;
            packed = new int[total];
            turned = new int[total];
            exchanges = new int[total * (lines - 1)];
            now = new long[total];
            later = new long[total];
            kept = new long[total];
            Copy order = new Copy();
            int[] row = new int[lines];
            for (int i = 0; i < lines; i++) {
                row[i] = i;
            }
            for (int x = 0; x < total; x++) {
                order.clear();
                for (int i = 0; i < lines; i++) {
                    order.append(row[i]);
                }
                packed[x] = order.packed;
                turned[x] = order.turned;
                putExchanges(x, order);
                rise(row);
            }
        }

        boolean has(int x) {
            return x >= 0 && x < total;
        }

        int exchanged(int x, int place) {
            int at = x * (lines - 1) + place;
            return at >= 0 && at < exchanges.length ? exchanges[at] : x;
        }

        int stepsTo(int x, Copy copy) {
            return Integer.bitCount((turned[x] ^ copy.turned) & copy.pairs);
        }

        int farTo(int x, Copy copy) {
            return stepsTo(x, copy) + FAR_OF_FALLEN * (lines - copy.length);
        }

        /** The number of a whole order: of each line how many lower ones are behind it tells it. */
        int numberOf(Copy order) {
            int number = 0;
            for (int i = 0; i < lines; i++) {
                number += lowerBehind(order, i) * factorial(lines - 1 - i);
            }
            return number;
        }

        /** Leaves in now the WAYS from an order to each one after k copyings. */
        void spread(int from, int k, int[] weights) {
            Arrays.fill(now, 0);
            if (!has(from)) {
                return;
            }
            now[from] = 1;
            for (int copying = 0; copying < k; copying++) {
                Arrays.fill(later, 0);
                for (int x = 0; x < total; x++) {
                    if (now[x] != 0) {
                        passOn(x, weights);
                    }
                }
                long[] before = now;
                now = later;
                later = before;
            }
        }

        void keep() {
            System.arraycopy(now, 0, kept, 0, total);
        }

        long allWays() {
            long sum = 0;
            for (int x = 0; x < total; x++) {
                sum += now[x];
            }
            return sum;
        }

        long allWaysFar(int from) {
            long sum = 0;
            for (int x = 0; x < total; x++) {
                sum += now[x] * Integer.bitCount(turned[x] ^ turned[from]);
            }
            return sum;
        }

        /** Whether MARKS at the places of the first order HOLD k steps. */
        boolean marksHold(int[] marks, int k) {
            for (int x = 1; x < total; x++) {
                if (Integer.bitCount(turned[x]) <= 2 * k && hasLikeMarks(marks, x)) {
                    return false;
                }
            }
            return true;
        }

        private boolean hasLikeMarks(int[] marks, int x) {
            for (int i = 0; i < lines; i++) {
                int line = lineOf(packed[x], i);
                if (i >= marks.length || line >= marks.length || marks[line] != marks[i]) {
                    return false;
                }
            }
            return true;
        }

        private void passOn(int x, int[] weights) {
            for (int p = 0; p < lines - 1 && p < weights.length; p++) {
                int to = exchanged(x, p);
                if (has(to)) {
                    later[to] += now[x] * weights[p];
                }
            }
        }

        private void putExchanges(int x, Copy order) {
            for (int p = 0; p < lines - 1; p++) {
                int here = lowerBehind(order, p);
                int next = lowerBehind(order, p + 1);
                boolean higherAhead = lineOf(order.packed, p) > lineOf(order.packed, p + 1);
                // The line that moves ahead has one lower line more behind it, if it is the higher.
                int hereAfter = higherAhead ? next : next + 1;
                int nextAfter = higherAhead ? here - 1 : here;
                exchanges[x * (lines - 1) + p] = x
                        + (hereAfter - here) * factorial(lines - 1 - p)
                        + (nextAfter - next) * factorial(lines - 2 - p);
            }
        }

        private static int lowerBehind(Copy order, int place) {
            int count = 0;
            for (int i = place + 1; i < order.length; i++) {
                if (lineOf(order.packed, i) < lineOf(order.packed, place)) {
                    count++;
                }
            }
            return count;
        }

        /** Makes of a row the next one as words rise; the last one stays. */
        private static void rise(int[] row) {
            int low = row.length - 2;
            while (low >= 0 && row[low] > row[low + 1]) {
                low--;
            }
            if (low < 0) {
                return;
            }
            int high = row.length - 1;
            while (high > low && row[high] < row[low]) {
                high--;
            }
            exchange(row, low, high);
            for (int i = low + 1, j = row.length - 1; i < j; i++, j--) {
                exchange(row, i, j);
            }
        }

        private static void exchange(int[] row, int i, int j) {
            int line = row[i];
            row[i] = row[j];
            row[j] = line;
        }
    }

    /** The COPIES of the latest TREE, and which was copied from which. */
    private static final class Family {
        /** One more than can be told: MISSING is laid with them. */
        private static final int ROOM = MOST_IN_TREE + 1;

        int members;
        private final int[] numbers = new int[ROOM];
        private final int[] sources = new int[ROOM];
        /** FAR from each member to each other one. */
        private final int[] fars = new int[ROOM * ROOM];
        /** Of each member the joined one it is least FAR from, and how far; joined ones are done. */
        private final int[] closest = new int[ROOM];
        private final int[] gap = new int[ROOM];
        private final boolean[] joined = new boolean[ROOM];

        void open() {
            members = 0;
        }

        void admit(int copy) {
            if (members < MOST_IN_TREE) {
                numbers[members] = copy;
                members++;
            }
        }

        /** Takes the FARS of the members as they are now; false, if one is there no more. */
        boolean measure(House house) {
            for (int i = 0; i < members && i < MOST_IN_TREE; i++) {
                Copy one = house.copyAt(numbers[i]);
                if (one == null) {
                    return false;
                }
                for (int j = 0; j < i; j++) {
                    Copy other = house.copyAt(numbers[j]);
                    if (other == null) {
                        return false;
                    }
                    putFar(i, j, one.farTo(other));
                }
            }
            return true;
        }

        /** Keeps from which each member was copied: the sum. */
        int settle() {
            int sum = span(members);
            for (int i = 0; i < members && i < MOST_IN_TREE; i++) {
                sources[i] = i == 0 ? NONE : numberAt(closest[i]);
            }
            return sum;
        }

        int sourceOf(int i) {
            return i >= 0 && i < members && i < ROOM ? sources[i] : NONE;
        }

        /** The sum with the whole order x laid with the members as the last one. */
        int spanWith(House house, Orders orders, int x) {
            for (int i = 0; i < members && i < MOST_IN_TREE; i++) {
                Copy copy = house.copyAt(numbers[i]);
                putFar(members, i, copy == null ? 0 : orders.farTo(x, copy));
            }
            return span(members + 1);
        }

        /** Joins the first so many members one by one: the FARS together. */
        int span(int size) {
            Arrays.fill(gap, ABOVE_ALL);
            for (int i = 0; i < ROOM; i++) {
                joined[i] = false;
                closest[i] = 0;
            }
            int sum = 0;
            int latest = 0;
            for (int count = 1; count < size; count++) {
                joined[latest] = true;
                reachFrom(latest, size);
                latest = nextToJoin(size);
                sum += gap[latest];
            }
            return sum;
        }

        private void reachFrom(int latest, int size) {
            for (int i = 0; i < size && i < ROOM; i++) {
                int far = fars[latest * ROOM + i];
                if (!joined[i] && far < gap[i]) {
                    gap[i] = far;
                    closest[i] = latest;
                }
            }
        }

        private int nextToJoin(int size) {
            int best = 0;
            int least = ABOVE_ALL;
            for (int i = 0; i < size && i < ROOM; i++) {
                if (!joined[i] && gap[i] < least) {
                    least = gap[i];
                    best = i;
                }
            }
            return best;
        }

        private int numberAt(int i) {
            return i >= 0 && i < ROOM ? numbers[i] : NONE;
        }

        private void putFar(int i, int j, int far) {
            if (i >= 0 && i < ROOM && j >= 0 && j < ROOM) {
                fars[i * ROOM + j] = far;
                fars[j * ROOM + i] = far;
            }
        }
    }
}
