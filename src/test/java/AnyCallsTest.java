import java.lang.reflect.Constructor;
import java.lang.reflect.Field;
import java.lang.reflect.Method;
import java.lang.reflect.Modifier;
import java.util.NoSuchElementException;
import java.util.Set;
import java.util.TreeSet;

/**
 * Any calls with any arguments in any state: none throws but line() and along(), which throw
 * NoSuchElementException alone; and the class shows the document's face and nothing else.
 */
public final class AnyCallsTest {
    private static final String FACE = "add again along better between count drawn end fault feed fewest firsts"
            + " from holds house image join judge just likeliest likely line made marks mended missing nearest"
            + " order restore said sense sentence size song tree ways woven";
    private static final String[] TEXTS = {
        "lines 7;copy a gfedcba;copy b abcdefg;copy c bdfaceg;copy d ace;desk e swap;desk f most 9;desk g drops;",
        "lines 2;copy a ab;copy b ba;copy c b;desk e most 1;sense a b;rhyme b a 99;",
        "lines 3;copy a cab;copy b acb;likely 1 0;likely 2 0;desk e drops;rhyme c b 1;",
        "copy a abcd;copy b dcba;copy c badc;copy d dc;copy e d;desk f swap;sense d a;sense b c;likely 2 9;",
        "lines 5;copy a abcde;copy a abcde;", "copy", "lines 6", ";", "",
        "not (far a<3 or steps b=2) and whole", "has a or ahead a b and holds", "size>1 and song<9 or far c=3",
        "((((((((whole))))))))", "not not not not whole or", "steps a"};
    private static final int[] EDGES = {Integer.MIN_VALUE, Integer.MIN_VALUE + 1, -2147483, -255, -3, -2, -1,
        255, 256, 719, 720, 740, 741, 5039, 5040, 5041, 65536, Integer.MAX_VALUE - 1, Integer.MAX_VALUE};

    private static long state = 7;

    public static void main(String[] args) {
        showsTheFaceAlone();
        for (int run = 0; run < 300; run++) {
            CopyOrders x = new CopyOrders();
            for (int call = 0; call < 512; call++) {
                anyCall(x);
            }
        }
        throwingChangesNothing();
        Checks.finish();
    }

    private static int pick(int n) {
        state = state * 6364136223846793005L + 1442695040888963407L;
        return (int) ((state >>> 33) % n);
    }

    private static int any() {
        int sort = pick(20);
        return sort == 0 ? EDGES[pick(EDGES.length)] : sort < 4 ? pick(24) : pick(6);
    }

    private static void showsTheFaceAlone() {
        Set<String> shown = new TreeSet<>();
        for (Method m : CopyOrders.class.getDeclaredMethods()) {
            if (!Modifier.isPrivate(m.getModifiers()) && !m.isSynthetic()) {
                shown.add(m.getName());
            }
        }
        Checks.due("methods: " + shown, String.join(" ", shown).equals(FACE), true);
        for (Field f : CopyOrders.class.getDeclaredFields()) {
            Checks.due("field " + f.getName() + " is private",
                    Modifier.isPrivate(f.getModifiers()) || f.getName().equals("NONE"), true);
        }
        Constructor<?>[] constructors = CopyOrders.class.getConstructors();
        Checks.due("constructors", constructors.length, 1);
        Checks.due("final", Modifier.isFinal(CopyOrders.class.getModifiers()), true);
    }

    private static void anyCall(CopyOrders x) {
        int call = pick(46);
        try {
            if (call < 8) {
                tellAny(x);
            } else if (call < 27) {
                askEarlier(x, call);
            } else {
                askLater(x, call);
            }
        } catch (NoSuchElementException e) {
            Checks.due("call " + call + " throws " + e, call == 8 || call == 29, true);
        } catch (RuntimeException e) {
            Checks.due("call " + call + " throws " + e, true, false);
        }
    }

    private static void tellAny(CopyOrders x) {
        switch (pick(5)) {
            case 0:
                x.feed(any(), any(), any(), any(), any());
                break;
            case 1:
                x.feed(any() << 24, any() << 16 | any() << 8, any(), any(), any());
                x.end(pick(12));
                break;
            case 2:
                int[] row = new int[pick(10)];
                for (int i = 0; i < row.length; i++) {
                    row[i] = pick(7);
                }
                Checks.lay(x, row);
                break;
            default:
                String text = TEXTS[pick(TEXTS.length)];
                Checks.lay(x, text);
                if (pick(4) > 0) {
                    Checks.due("house() or sentence()", x.house() >= -701, true);
                    Checks.lay(x, TEXTS[9 + pick(6)]);
                    Checks.due("sentence()", x.sentence() <= 20, true);
                }
                break;
        }
    }

    private static void askEarlier(CopyOrders x, int call) {
        switch (call) {
            case 8: x.line(any(), any()); break;
            case 9: x.size(any()); break;
            case 10: x.add(); break;
            case 11: x.order(any(), any()); break;
            case 12: x.between(any(), any(), any()); break;
            case 13: x.made(any(), any()); break;
            case 14: x.fewest(any(), any(), any()); break;
            case 15: x.just(any(), any(), any(), any()); break;
            case 16: x.judge(any()); break;
            case 17: x.nearest(any(), any()); break;
            case 18: x.tree(); break;
            case 19: x.from(any()); break;
            case 20: x.missing(any()); break;
            case 21: x.ways(any(), any(), any()); break;
            case 22: x.likeliest(any(), any(), any(), any()); break;
            case 23: x.likely(); break;
            case 24: x.firsts(any(), any()); break;
            case 25: x.drawn(any(), any(), any()); break;
            default: x.again(any()); break;
        }
    }

    private static void askLater(CopyOrders x, int call) {
        switch (call) {
            case 27: x.end(any()); break;
            case 28: x.fault(); break;
            case 29: x.along(any(), any(), any()); break;
            case 30: x.holds(any()); break;
            case 31: x.marks(any()); break;
            case 32: x.sense(any()); break;
            case 33: x.mended(any(), any()); break;
            case 34: x.song(any()); break;
            case 35: x.better(any(), any()); break;
            case 36: x.join(any(), any(), any()); break;
            case 37: x.woven(any(), any(), any()); break;
            case 38: x.sentence(); break;
            case 39: x.said(); break;
            case 40: x.image(any()); break;
            case 41: x.restore(any()); break;
            case 42: x.house(); break;
            case 43: x.count(any()); break;
            default: x.said(); break;
        }
    }

    private static void throwingChangesNothing() {
        CopyOrders x = Checks.with(TEXTS[3]);
        Checks.sentence(x, "size>1");
        Checks.lay(x, 1, 0, 2);
        x.tree();
        x.likeliest(0, 2, 0, 2);
        Checks.lay(x, 1, 2, 3);
        long before = digest(x);
        for (int i = 0; i < 30; i++) {
            boolean thrown = false;
            try {
                if (i % 2 == 0) {
                    x.line(i < 10 ? 0 : i, i < 10 ? 4 + i : 0);
                } else {
                    x.along(i < 10 ? 24 : 0, i < 20 ? 11 + i : 0, i < 10 ? 0 : 2);
                }
            } catch (NoSuchElementException e) {
                thrown = true;
            }
            Checks.due("line() or along() " + i + " throws", thrown, true);
            Checks.due("the state behind throwing " + i, digest(x), before);
        }
    }

    private static long digest(CopyOrders x) {
        long sum = x.count(6) + 31L * x.likely() + x.fault();
        long[] parts = {x.count(0), x.count(1), x.count(2), x.count(4), x.count(5), x.said(), x.from(1), x.from(2),
            x.missing(1), x.nearest(0, -2), x.sense(-1), x.ways(0, 2, 3), x.song(5), x.made(0, 1)};
        for (long part : parts) {
            sum = sum * 1000003 + part;
        }
        return sum;
    }
}
