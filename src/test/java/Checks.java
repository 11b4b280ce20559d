/** What the tests share: telling texts to an object, and counting answers that are not due. */
final class Checks {
    private static int made;
    private static int wrong;

    private Checks() {
    }

    static void due(String call, long got, long want) {
        made++;
        if (got != want) {
            wrong++;
            System.out.println(call + " answered " + got + ", due is " + want);
        }
    }

    static void due(String call, boolean got, boolean want) {
        due(call, got ? 1 : 0, want ? 1 : 0);
    }

    /** The tape holds just these bytes then. */
    static void lay(CopyOrders x, int... bytes) {
        x.end(0);
        for (int at = 0; at < bytes.length; at += 20) {
            x.feed(number(bytes, at), number(bytes, at + 4), number(bytes, at + 8),
                    number(bytes, at + 12), number(bytes, at + 16));
        }
        due("end(" + bytes.length + ")", x.end(bytes.length), true);
    }

    static void lay(CopyOrders x, String text) {
        int[] bytes = new int[text.length()];
        for (int i = 0; i < bytes.length; i++) {
            bytes[i] = text.charAt(i);
        }
        lay(x, bytes);
    }

    static int house(CopyOrders x, String text) {
        lay(x, text);
        return x.house();
    }

    static int sentence(CopyOrders x, String text) {
        lay(x, text);
        return x.sentence();
    }

    /** A new object with a HOUSE that must be without FAULT. */
    static CopyOrders with(String text) {
        CopyOrders x = new CopyOrders();
        due("house() of " + text + " has a FAULT", house(x, text) < 0, false);
        return x;
    }

    static void finish() {
        System.out.println(made + " answers, " + wrong + " not as due");
        if (wrong != 0) {
            System.exit(1);
        }
    }

    private static int number(int[] bytes, int at) {
        int number = 0;
        for (int i = at; i < at + 4; i++) {
            number = number << 8 | (i < bytes.length ? bytes[i] & 255 : 0);
        }
        return number;
    }
}
