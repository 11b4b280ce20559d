import java.util.NoSuchElementException;

/** What the tests share: telling texts to an object, and counting answers that are not due. */
final class Checks {
    private static int made;
    private static int wrong;
    private static int sentences;
    private static String sentence = "";
    private static int madeAhead = -1;

    private Checks() {
    }

    static void due(String call, long got, long want) {
        made++;
        if (got != want) {
            wrong++;
            System.out.println(sentence + call + " answered " + got + ", due is " + want);
        }
    }

    /** The answers from here on are about these words of the document; each must have some. */
    static void says(String words) {
        closeSentence();
        sentence = "'" + words + "': ";
        sentences++;
    }

    private static void closeSentence() {
        if (made == madeAhead) {
            wrong++;
            System.out.println(sentence + "nothing was asked");
        }
        madeAhead = made;
    }

    static void due(String call, boolean got, boolean want) {
        due(call, got ? 1 : 0, want ? 1 : 0);
    }

    /** The tape holds just these bytes then; those behind its end were 255, and must not count. */
    static void lay(CopyOrders x, int... bytes) {
        x.end(0);
        for (int at = 0; at < bytes.length; at += 20) {
            x.feed(number(bytes, at), number(bytes, at + 4), number(bytes, at + 8),
                    number(bytes, at + 12), number(bytes, at + 16));
        }
        due("end(" + bytes.length + ")", x.end(bytes.length), true);
    }

    static void lay(CopyOrders x, String text) {
        int[] bytes = new int[text.length()];
        for (int i = 0; i < bytes.length; i++) {
            bytes[i] = text.charAt(i);
        }
        lay(x, bytes);
    }

    static int house(CopyOrders x, String text) {
        lay(x, text);
        return x.house();
    }

    static int sentence(CopyOrders x, String text) {
        lay(x, text);
        return x.sentence();
    }

    /** A new object with a HOUSE that must be without FAULT. */
    static CopyOrders with(String text) {
        CopyOrders x = new CopyOrders();
        due("house() of " + text + " has a FAULT", house(x, text) < 0, false);
        return x;
    }

    /** A HOUSE of a new object has a FAULT of a kind at the mark ^, and the HOUSE stays. */
    static void houseFault(int kind, String marked) {
        CopyOrders x = new CopyOrders();
        due("house() of " + marked, house(x, marked.replace("^", "")), -1 - marked.indexOf('^'));
        due("fault() of " + marked, x.fault(), kind);
        due("count(1) behind " + marked, x.count(1), 0);
        due("count(2) behind " + marked, x.count(2), 0);
        due("count(6) behind " + marked, x.count(6), 0);
    }

    /** A HOUSE of a new object has so many LINES and no FAULT. */
    static CopyOrders houseIs(int lines, String text) {
        CopyOrders x = new CopyOrders();
        due("house() of " + text, house(x, text), lines);
        due("fault() of " + text, x.fault(), 0);
        due("count(6) behind " + text, x.count(6), 0);
        return x;
    }

    /** A SENTENCE has a FAULT of a kind at the mark ^. */
    static void sentenceFault(String house, int kind, String marked) {
        CopyOrders x = with(house);
        due("sentence() of " + marked, sentence(x, marked.replace("^", "")), -1 - marked.indexOf('^'));
        due("fault() of " + marked, x.fault(), kind);
        due("said() behind " + marked, x.said(), -1);
        due("count(6) behind " + marked, x.count(6), 0);
    }

    static void lineThrows(CopyOrders x, int c, int i) {
        boolean thrown = false;
        try {
            x.line(c, i);
        } catch (NoSuchElementException e) {
            thrown = true;
        }
        due("line(" + c + ", " + i + ") throws", thrown, true);
    }

    static void alongThrows(CopyOrders x, int o, int k, int what) {
        boolean thrown = false;
        try {
            x.along(o, k, what);
        } catch (NoSuchElementException e) {
            thrown = true;
        }
        due("along(" + o + ", " + k + ", " + what + ") throws", thrown, true);
    }

    static void finish() {
        closeSentence();
        String of = sentences == 0 ? "" : " of " + sentences + " sentences";
        System.out.println(made + " answers" + of + ", " + wrong + " not as due");
        if (wrong != 0) {
            System.exit(1);
        }
    }

    private static int number(int[] bytes, int at) {
        int number = 0;
        for (int i = at; i < at + 4; i++) {
            number = number << 8 | (i < bytes.length ? bytes[i] & 255 : 255);
        }
        return number;
    }
}
