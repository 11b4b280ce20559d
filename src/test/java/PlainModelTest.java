import java.util.ArrayList;
import java.util.Arrays;
import java.util.HashMap;
import java.util.LinkedHashMap;
import java.util.List;
import java.util.Map;
import java.util.NoSuchElementException;
import java.util.regex.Matcher;
import java.util.regex.Pattern;

/**
 * The document once more, over strings and by trying all that may be, against the class: many
 * texts, some with a byte changed, and the calls about each of them.
 */
public final class PlainModelTest {
    private static final String RESERVED = " lines copy desk swap most drops likely sense rhyme or and"
            + " not whole holds has ahead far steps song size ";
    private static final String[] PARTS = {"lines", "copy", "desk", "swap", "most", "drops", "likely",
        "sense", "rhyme", "or", "and", "not", "whole", "holds", "has", "ahead", "far", "steps", "song",
        "size", ";", "<", "=", ">", "(", ")", ".", "a", "b", "c", "ab", "abcd", "ka", "1", "2", "0",
        "10", "99", "100", "abcdefgh", "x1", "1x", "A", " ", "\n", "\t", "\u00e9", "copy kz ab;",
        "not not not", "(((", "or whole", "and holds"};

    private static long state = 20261118;

    public static void main(String[] args) {
        for (int run = 0; run < 120; run++) {
            compareHouses(run, run < 100 ? 4 : 5);
        }
        for (int run = 0; run < 6000; run++) {
            compareFaults();
        }
        compareLargest();
        Checks.finish();
    }

    /** A number from 0 to n less 1, the same ones in each run. */
    private static int pick(int n) {
        state = state * 6364136223846793005L + 1442695040888963407L;
        return (int) ((state >>> 33) % n);
    }

    /** Three HOUSES on one object, the first two of them kept and put back behind the third. */
    private static void compareHouses(int run, int sizes) {
        CopyOrders x = new CopyOrders();
        Model[] models = new Model[3];
        String[] names = new String[3];
        for (int i = 0; i < 3; i++) {
            models[i] = new Model();
            String text = models[i].makeHouse(2 + pick(sizes));
            names[i] = run + " " + i + " " + text + ": ";
            Checks.due("house() of " + names[i], Checks.house(x, text) < 0, false);
            addSome(x, models[i], names[i]);
            if (pick(3) > 0) {
                tellSentence(x, models[i], names[i]);
            }
            compareAll(x, models[i], names[i]);
            if (i < 2) {
                Checks.due("image", x.image(i), true);
            }
        }
        for (int i = 0; i < 2; i++) {
            Checks.due("restore", x.restore(i), true);
            compareAll(x, models[i], "restored: " + names[i]);
        }
    }

    private static void addSome(CopyOrders x, Model m, String t) {
        for (int i = pick(4); i > 0 && m.copies.size() < 10; i--) {
            String copy = m.shuffled().substring(0, pick(3) == 0 ? 1 + pick(m.n) : m.n);
            Checks.lay(x, copy.chars().map(c -> c - 'a').toArray());
            Checks.due(t + "add " + copy, x.add(), m.copies.size());
            m.copies.add(copy);
            m.names.add("");
        }
    }

    private static void tellSentence(CopyOrders x, Model m, String t) {
        String text = m.makeSentence(pick(3));
        int want = m.sentence(text);
        Checks.due(t + "sentence " + text, Checks.sentence(x, text), want);
    }

    private static void compareAll(CopyOrders x, Model m, String t) {
        compareState(x, m, t);
        Checks.due(t + "said", x.said(), m.said());
        compareCopies(x, m, t);
        compareJudge(x, m, t);
        compareNearest(x, m, t);
        compareTree(x, m, t);
        compareWays(x, m, t);
        compareMarks(x, m, t);
        compareSense(x, m, t);
    }

    private static void compareState(CopyOrders x, Model m, String t) {
        Checks.due(t + "count(0)", x.count(0), m.n);
        Checks.due(t + "count(1)", x.count(1), m.copies.size());
        Checks.due(t + "count(2)", x.count(2), m.desks.size());
        Checks.due(t + "count(3)", x.count(3), m.orders().size());
        Checks.due(t + "count(4)", x.count(4), m.senses.size());
        Checks.due(t + "count(5)", x.count(5), m.rhymes.size());
        for (int c = 0; c < m.copies.size(); c++) {
            String copy = m.copies.get(c);
            Checks.due(t + "size " + c, x.size(c), copy.length());
            for (int i = 0; i < copy.length(); i++) {
                Checks.due(t + "line " + c + " " + i, x.line(c, i), copy.charAt(i) - 'a');
            }
        }
        int o = pick(m.orders().size());
        for (int i = 0; i < m.n; i++) {
            Checks.due(t + "order " + o, x.order(o, i), m.orders().get(o).charAt(i) - 'a');
        }
    }

    private static void compareCopies(CopyOrders x, Model m, String t) {
        for (int a = 0; a < m.copies.size(); a++) {
            for (int b = 0; b < m.copies.size(); b++) {
                String p = m.copies.get(a);
                String q = m.copies.get(b);
                String pair = t + p + " " + q + " ";
                Checks.due(pair + "steps", x.between(a, b, 0), Model.steps(p, q));
                Checks.due(pair + "fallen", x.between(a, b, 1), Model.fallen(p, q));
                Checks.due(pair + "far", x.between(a, b, 2), Model.far(p, q));
                Checks.due(pair + "made", x.made(a, b), m.made(p, q));
                for (int d = 0; d < m.desks.size(); d++) {
                    Checks.due(pair + "fewest " + d, x.fewest(a, b, d), m.fewest(p, q, m.desks.get(d)));
                    int k = pick(12);
                    Checks.due(pair + "just " + d + " " + k, x.just(a, b, d, k),
                            m.just(p, q, m.desks.get(d), k));
                }
                Checks.due(pair + "join", x.join(a, b, 0), m.join(p, q)[0]);
                Checks.due(pair + "join 1", x.join(a, b, 1), m.join(p, q)[1]);
                int c = pick(m.copies.size());
                Checks.due(pair + "woven " + c, x.woven(a, b, c), Model.woven(p, q, m.copies.get(c)));
            }
        }
    }

    private static void compareJudge(CopyOrders x, Model m, String t) {
        for (int d = 0; d < m.desks.size() && !m.copies.isEmpty(); d++) {
            int[] row = new int[2 + pick(5)];
            for (int i = 0; i < row.length; i++) {
                row[i] = pick(m.copies.size());
            }
            int want = 0;
            for (int i = row.length - 1; i > 0; i--) {
                if ((m.made(m.copies.get(row[i - 1]), m.copies.get(row[i])) >> d & 1) == 0) {
                    want = i;
                }
            }
            Checks.lay(x, row);
            Checks.due(t + "judge " + Arrays.toString(row), x.judge(d), want);
        }
    }

    private static void compareNearest(CopyOrders x, Model m, String t) {
        for (int how = 0; how < 2 && !m.copies.isEmpty(); how++) {
            List<Integer> best = new ArrayList<>();
            int least = m.nearest(how, best);
            Checks.due(t + "nearest -2", x.nearest(how, -2), least);
            Checks.due(t + "nearest -1", x.nearest(how, -1), best.size());
            for (int i = 0; i < Math.min(5, best.size()); i++) {
                Checks.due(t + "nearest " + i, x.nearest(how, i), best.get(i));
            }
            Checks.due(t + "nearest end", x.nearest(how, best.size()), -1);
        }
    }

    private static void compareTree(CopyOrders x, Model m, String t) {
        int most = Math.min(m.copies.size(), 9);
        if (most == 0) {
            return;
        }
        List<Integer> row = new ArrayList<>();
        for (int i = 0, size = 1 + pick(most); row.size() < size; i++) {
            int c = pick(m.copies.size());
            if (!row.contains(c)) {
                row.add(c);
            }
        }
        List<String> texts = new ArrayList<>();
        for (int c : row) {
            texts.add(m.copies.get(c));
        }
        int[] from = new int[row.size()];
        int sum = Model.tree(texts, from);
        Checks.lay(x, row.stream().mapToInt(c -> c).toArray());
        Checks.due(t + "tree " + row, x.tree(), sum);
        for (int i = 0; i < from.length; i++) {
            Checks.due(t + "from " + i + " of " + row, x.from(i), i == 0 ? -1 : row.get(from[i]));
        }
        int found = -1;
        int least = sum;
        for (int o = 0; o < m.orders().size(); o++) {
            texts.add(m.orders().get(o));
            int with = Model.tree(texts, new int[texts.size()]);
            texts.remove(texts.size() - 1);
            if (with < least) {
                least = with;
                found = o;
            }
        }
        Checks.due(t + "missing of " + row, x.missing(0), found);
        Checks.due(t + "missing 1 of " + row, x.missing(1), found < 0 ? -1 : least);
    }

    private static void compareWays(CopyOrders x, Model m, String t) {
        List<String> orders = m.orders();
        int o = pick(orders.size());
        int k = pick(m.n > 5 ? 6 : 9);
        Map<String, Long> ways = m.ways(orders.get(o), k, m.weights);
        int reached = 0;
        long above = 0;
        long below = 0;
        for (int y = 0; y < orders.size(); y++) {
            long w = ways.getOrDefault(orders.get(y), 0L);
            if (y < 30) {
                Checks.due(t + "ways " + o + " " + y + " " + k, x.ways(o, y, k), w);
            }
            reached += w > 0 ? 1 : 0;
            above += w * Model.far(orders.get(o), orders.get(y));
            below += w;
        }
        Checks.due(t + "firsts " + o + " " + k, x.firsts(o, k), reached);
        compareAlong(x, t + "along " + o + " " + k, o, k, above, below);
        int[] ones = {1, 1, 1, 1, 1, 1};
        Checks.due(t + "again " + k, x.again(k), m.ways(orders.get(0), k, ones).getOrDefault(orders.get(0), 0L));
        int seed = pick(1 << 30) * 4 + pick(4);
        int copyings = pick(101);
        Checks.due(t + "drawn " + o + " " + copyings + " " + seed, x.drawn(o, copyings, seed),
                m.drawn(orders.get(o), copyings, seed));
        for (int i = 0; i < 3 && !m.copies.isEmpty(); i++) {
            compareLikeliest(x, m, t);
        }
    }

    private static void compareAlong(CopyOrders x, String t, int o, int k, long above, long below) {
        if (below == 0) {
            boolean thrown = false;
            try {
                x.along(o, k, 0);
            } catch (NoSuchElementException e) {
                thrown = true;
            }
            Checks.due(t + " throws", thrown, true);
            return;
        }
        long a = x.along(o, k, 0);
        long b = x.along(o, k, 1);
        Checks.due(t + " as a part", a * below, above * b);
        for (long d = 2; d <= 60; d++) {
            Checks.due(t + " in least numbers", a % d == 0 && b % d == 0, false);
        }
    }

    private static void compareLikeliest(CopyOrders x, Model m, String t) {
        int a = pick(m.copies.size());
        int b = pick(m.copies.size());
        int j = pick(6);
        int k = pick(6);
        long before = x.likely();
        int want = -1;
        long most = 0;
        if (m.copies.get(a).length() < m.n || m.copies.get(b).length() < m.n) {
            want = -2;
        } else {
            Map<String, Long> one = m.ways(m.copies.get(a), j, m.weights);
            Map<String, Long> other = m.ways(m.copies.get(b), k, m.weights);
            for (int o = 0; o < m.orders().size(); o++) {
                String order = m.orders().get(o);
                long product = one.getOrDefault(order, 0L) * other.getOrDefault(order, 0L);
                if (product > most) {
                    most = product;
                    want = o;
                }
            }
        }
        Checks.due(t + "likeliest " + a + " " + j + " " + b + " " + k, x.likeliest(a, j, b, k), want);
        Checks.due(t + "likely", x.likely(), want < 0 ? before : most);
    }

    private static void compareMarks(CopyOrders x, Model m, String t) {
        for (int i = 0; i < 4; i++) {
            int[] marks = new int[m.n];
            for (int p = 0; p < m.n; p++) {
                marks[p] = pick(m.n) * 51;
            }
            int k = pick(10);
            Checks.lay(x, marks);
            Checks.due(t + "holds " + Arrays.toString(marks) + " " + k, x.holds(k), m.holds(marks, k) ? 1 : 0);
        }
        for (int k = 0; k < 10; k++) {
            int fewest = 0;
            boolean held = false;
            while (!held) {
                fewest++;
                int[] marks = new int[m.n];
                for (int p = 0; p < m.n; p++) {
                    marks[p] = p % fewest;
                }
                held = m.holds(marks, k);
            }
            Checks.due(t + "marks " + k, x.marks(k), fewest);
        }
    }

    private static void compareSense(CopyOrders x, Model m, String t) {
        List<Integer> holding = new ArrayList<>();
        for (int o = 0; o < m.orders().size(); o++) {
            if (m.holdsSense(m.orders().get(o))) {
                holding.add(o);
            }
            if (o < 40) {
                Checks.due(t + "song " + o, x.song(o), m.song(m.orders().get(o)));
            }
        }
        Checks.due(t + "sense -1", x.sense(-1), holding.size());
        for (int i = 0; i < Math.min(10, holding.size()); i++) {
            Checks.due(t + "sense " + i, x.sense(i), holding.get(i));
        }
        Checks.due(t + "sense end", x.sense(holding.size()), -1);
        for (int c = 0; c < m.copies.size(); c++) {
            compareMended(x, m, t, c, holding);
        }
    }

    private static void compareMended(CopyOrders x, Model m, String t, int c, List<Integer> holding) {
        String copy = m.copies.get(c);
        int found = -1;
        int least = -1;
        for (int o : holding) {
            int far = Model.far(m.orders().get(o), copy);
            if (found < 0 || far < least) {
                found = o;
                least = far;
            }
        }
        Checks.due(t + "mended " + c, x.mended(c, 0), found);
        Checks.due(t + "mended 1 " + c, x.mended(c, 1), least);
        int k = pick(22);
        int best = -1;
        if (copy.length() == m.n) {
            for (int o = 0; o < m.orders().size(); o++) {
                String order = m.orders().get(o);
                int steps = Model.steps(order, copy);
                if (steps <= k && (best < 0 || m.song(order) * 100 - steps
                        > m.song(m.orders().get(best)) * 100 - Model.steps(m.orders().get(best), copy))) {
                    best = o;
                }
            }
        }
        Checks.due(t + "better " + c + " " + k, x.better(c, k), best);
    }

    /** A HOUSE and a SENTENCE, each with some parts changed, on one object. */
    private static void compareFaults() {
        CopyOrders x = new CopyOrders();
        Model m = new Model();
        String house = spoil(new Model().makeHouse(2 + pick(4)), pick(3), 740);
        Model read = new Model();
        int want = read.house(house);
        Checks.due("house() of " + show(house), Checks.house(x, house), want);
        Checks.due("fault() of " + show(house), x.fault(), read.fault);
        if (want >= 0) {
            m = read;
        }
        compareState(x, m, "behind " + show(house) + ": ");
        for (int i = 0; i < 3; i++) {
            String text = spoil(m.makeSentence(1 + pick(3)), pick(3), 400);
            want = m.sentence(text);
            Checks.due("sentence() of " + show(text) + " in " + show(house), Checks.sentence(x, text), want);
            Checks.due("fault() of " + show(text), x.fault(), m.fault);
            Checks.due("said() of " + show(text) + " in " + show(house), x.said(), m.said());
        }
    }

    private static String show(String text) {
        return text.replace("\n", "\\n").replace("\t", "\\t");
    }

    private static String spoil(String text, int times, int most) {
        StringBuilder b = new StringBuilder(text);
        for (int i = 0; i < times; i++) {
            int at = pick(b.length() + 1);
            int to = Math.min(b.length(), at + pick(4));
            b.replace(at, to, pick(4) == 0 ? "" : PARTS[pick(PARTS.length)]);
        }
        if (pick(20) == 0) {
            int at = pick(b.length() + 1);
            b.insert(at, " ".repeat(pick(most)));
        }
        if (b.length() > most) {
            b.setLength(most);
        }
        return b.toString();
    }

    /** The largest numbers that the document lets come about: 7 lines, all W 9, 10 copyings. */
    private static void compareLargest() {
        Model m = new Model();
        m.n = 7;
        Arrays.fill(m.weights, 9);
        CopyOrders x = Checks.with("lines 7;likely 1 9;likely 2 9;likely 3 9;likely 4 9;likely 5 9;likely 6 9;");
        String first = m.orders().get(0);
        Map<String, Long> ways = m.ways(first, 10, m.weights);
        long above = 0;
        long below = 0;
        for (Map.Entry<String, Long> e : ways.entrySet()) {
            above += e.getValue() * Model.far(first, e.getKey());
            below += e.getValue();
        }
        Checks.due("ways(0, 0, 10)", x.ways(0, 0, 10), ways.get(first));
        Checks.due("all WAYS", below, 210832519264920576L);
        long a = above;
        long b = below;
        while (b != 0) {
            long rest = a % b;
            a = b;
            b = rest;
        }
        Checks.due("along(0, 10, 0)", x.along(0, 10, 0), above / a);
        Checks.due("along(0, 10, 1)", x.along(0, 10, 1), below / a);
        Checks.due("firsts(0, 10)", x.firsts(0, 10), ways.size());
    }

    /** A FAULT of a text. */
    private static final class Fault extends RuntimeException {
        private static final long serialVersionUID = 1;
        final int kind;
        final int place;

        Fault(int kind, int place) {
            this.kind = kind;
            this.place = place;
        }
    }

    /** One token of a text: its words as they stand, and where. */
    private static final class Part {
        final String text;
        final int place;

        Part(String text, int place) {
            this.text = text;
            this.place = place;
        }

        boolean isWord() {
            return text.matches("[a-z]{1,7}");
        }

        boolean isNumber() {
            return text.matches("[0-9]{1,2}");
        }
    }

    /** What a text of a SENTENCE says of a copy. */
    private interface Claim {
        boolean of(String copy);
    }

    private static final class Model {
        int n = 4;
        List<String> copies = new ArrayList<>();
        List<String> names = new ArrayList<>();
        List<String> desks = new ArrayList<>();
        List<String> deskNames = new ArrayList<>();
        int[] weights = {1, 1, 1, 1, 1, 1};
        List<String> senses = new ArrayList<>();
        Map<String, Integer> rhymes = new LinkedHashMap<>();
        int fault;
        private Claim claim;
        private List<String> orders;
        private int ordersOf;
        private List<Part> parts;
        private int at;
        private int ones;

        /** A text of so many lines; the model is what it tells. */
        String makeHouse(int lines) {
            StringBuilder text = new StringBuilder();
            n = lines;
            if (n != 4 || pick(2) == 0) {
                text.append("lines ").append(n).append(';').append(pick(3) == 0 ? "\n" : "");
            }
            for (int i = pick(7); i > 0; i--) {
                String copy = shuffled().substring(0, pick(4) == 0 ? 1 + pick(n) : n);
                names.add("k" + (char) ('a' + names.size()));
                copies.add(copy);
                text.append("copy ").append(names.get(names.size() - 1)).append(' ').append(copy).append("; ");
            }
            for (int i = pick(4); i > 0; i--) {
                String[] ways = {"swap", "drops", "most " + (1 + pick(9))};
                desks.add(ways[pick(3)]);
                deskNames.add("d" + (char) ('a' + deskNames.size()));
                text.append("desk ").append(deskNames.get(deskNames.size() - 1)).append(' ')
                        .append(desks.get(desks.size() - 1)).append(";");
            }
            for (int p = 1; p < n; p++) {
                if (pick(2) == 0) {
                    weights[p - 1] = pick(3) == 0 ? 0 : pick(10);
                    text.append("likely ").append(p).append(' ').append(weights[p - 1]).append(';');
                }
            }
            for (int i = pick(4); i > 0; i--) {
                String pair = shuffled().substring(0, 2);
                if (!senses.contains(pair)) {
                    senses.add(pair);
                    text.append("sense ").append(pair.charAt(0)).append(' ').append(pair.charAt(1)).append(';');
                }
            }
            for (int i = pick(6); i > 0; i--) {
                String pair = shuffled().substring(0, 2);
                if (!rhymes.containsKey(pair)) {
                    rhymes.put(pair, 1 + pick(99));
                    text.append("rhyme ").append(pair.charAt(0)).append(' ').append(pair.charAt(1)).append(' ')
                            .append(rhymes.get(pair)).append(';');
                }
            }
            return text.toString();
        }

        String shuffled() {
            StringBuilder all = new StringBuilder("abcdefg".substring(0, n));
            StringBuilder order = new StringBuilder();
            while (all.length() > 0) {
                int i = pick(all.length());
                order.append(all.charAt(i));
                all.deleteCharAt(i);
            }
            return order.toString();
        }

        String makeSentence(int depth) {
            StringBuilder b = new StringBuilder(makeOne(depth));
            for (int i = pick(4); i > 0; i--) {
                b.append(pick(2) == 0 ? " and " : " or ").append(makeOne(depth));
            }
            return b.toString();
        }

        private String makeOne(int depth) {
            String name = names.isEmpty() || pick(30) == 0 ? "da" : names.get(pick(names.size()));
            String sign = "<=>".charAt(pick(3)) + "" + pick(12);
            char one = (char) ('a' + pick(n));
            char other = (char) ('a' + pick(n));
            switch (pick(depth > 0 ? 10 : 8)) {
                case 0: return "whole";
                case 1: return "holds";
                case 2: return "has " + one;
                case 3: return "ahead " + one + " " + other;
                case 4: return "far " + name + sign;
                case 5: return "steps " + name + sign;
                case 6: return "song" + "<=>".charAt(pick(3)) + pick(100);
                case 7: return "size" + sign;
                case 8: return "not " + makeOne(depth - 1);
                default: return "(" + makeSentence(depth - 1) + ")";
            }
        }

        List<String> orders() {
            if (orders == null || ordersOf != n) {
                orders = new ArrayList<>();
                permute("", "abcdefg".substring(0, n));
                ordersOf = n;
            }
            return orders;
        }

        private void permute(String head, String rest) {
            if (rest.isEmpty()) {
                orders.add(head);
            }
            for (int i = 0; i < rest.length(); i++) {
                permute(head + rest.charAt(i), rest.substring(0, i) + rest.substring(i + 1));
            }
        }

        static int steps(String a, String b) {
            int count = 0;
            for (char p = 'a'; p <= 'g'; p++) {
                for (char q = 'a'; q < p; q++) {
                    if (a.indexOf(p) >= 0 && a.indexOf(q) >= 0 && b.indexOf(p) >= 0 && b.indexOf(q) >= 0
                            && a.indexOf(p) < a.indexOf(q) != b.indexOf(p) < b.indexOf(q)) {
                        count++;
                    }
                }
            }
            return count;
        }

        static int fallen(String a, String b) {
            int count = 0;
            for (char p = 'a'; p <= 'g'; p++) {
                if (a.indexOf(p) >= 0 != b.indexOf(p) >= 0) {
                    count++;
                }
            }
            return count;
        }

        static int far(String a, String b) {
            return steps(a, b) + 3 * fallen(a, b);
        }

        int made(String a, String b) {
            int bits = 0;
            for (int d = 0; d < desks.size(); d++) {
                String desk = desks.get(d);
                boolean may = false;
                if (desk.equals("drops")) {
                    for (int i = 0; i < a.length(); i++) {
                        may |= (a.substring(0, i) + a.substring(i + 1)).equals(b);
                    }
                } else if (fallen(a, b) == 0) {
                    int steps = steps(a, b);
                    may = desk.equals("swap") ? steps == 1 : steps <= desk.charAt(5) - '0';
                }
                bits |= may ? 1 << d : 0;
            }
            return bits;
        }

        int fewest(String a, String b, String desk) {
            for (int k = 0; k <= 21 && a.length() == n && b.length() == n; k++) {
                if (just(a, b, desk, k) == 1) {
                    return k;
                }
            }
            return -1;
        }

        int just(String a, String b, String desk, int k) {
            if (a.length() < n || b.length() < n) {
                return -1;
            }
            int steps = steps(a, b);
            if (desk.equals("drops")) {
                return k == 0 && a.equals(b) ? 1 : 0;
            }
            if (desk.equals("swap")) {
                return k >= steps && (k - steps) % 2 == 0 ? 1 : 0;
            }
            return k * (desk.charAt(5) - '0') >= steps ? 1 : 0;
        }

        int[] join(String a, String b) {
            int found = -1;
            int least = 99;
            for (int o = 0; o < orders().size(); o++) {
                int both = steps(orders().get(o), a) + steps(orders().get(o), b);
                if (both < least) {
                    least = both;
                    found = o;
                }
            }
            return new int[] {found, least};
        }

        static int woven(String a, String b, String c) {
            if (c.isEmpty()) {
                return 0;
            }
            int best = -1;
            for (int i = 1; i <= c.length(); i++) {
                String piece = c.substring(0, i);
                if (liesIn(piece, a) || liesIn(piece, b)) {
                    int rest = woven(a, b, c.substring(i));
                    if (rest >= 0 && (best < 0 || rest + 1 < best)) {
                        best = rest + 1;
                    }
                }
            }
            return best;
        }

        private static boolean liesIn(String piece, String copy) {
            int at = -1;
            for (char line : piece.toCharArray()) {
                if (copy.indexOf(line) <= at) {
                    return false;
                }
                at = copy.indexOf(line);
            }
            return true;
        }

        int nearest(int how, List<Integer> best) {
            int least = 9999;
            for (int o = 0; o < orders().size(); o++) {
                int sum = 0;
                int worst = 0;
                for (String copy : copies) {
                    int far = far(orders().get(o), copy);
                    sum += far;
                    worst = Math.max(worst, far);
                }
                int value = how == 0 ? sum : worst;
                if (value < least) {
                    best.clear();
                    least = value;
                }
                if (value == least) {
                    best.add(o);
                }
            }
            return least;
        }

        static int tree(List<String> texts, int[] from) {
            List<Integer> joined = new ArrayList<>(List.of(0));
            int sum = 0;
            while (joined.size() < texts.size()) {
                int next = -1;
                int source = -1;
                int least = 9999;
                for (int i = 0; i < texts.size(); i++) {
                    for (int j : joined) {
                        int far = far(texts.get(i), texts.get(j));
                        if (!joined.contains(i) && far < least) {
                            least = far;
                            next = i;
                            source = j;
                        }
                    }
                }
                joined.add(next);
                from[next] = source;
                sum += least;
            }
            return sum;
        }

        Map<String, Long> ways(String order, int k, int[] w) {
            Map<String, Long> now = new HashMap<>();
            now.put(order, 1L);
            for (int i = 0; i < k; i++) {
                Map<String, Long> later = new HashMap<>();
                for (Map.Entry<String, Long> e : now.entrySet()) {
                    for (int p = 0; p + 1 < n; p++) {
                        if (w[p] > 0) {
                            later.merge(exchange(e.getKey(), p), e.getValue() * w[p], Long::sum);
                        }
                    }
                }
                now = later;
            }
            return now;
        }

        private static String exchange(String order, int p) {
            return order.substring(0, p) + order.charAt(p + 1) + order.charAt(p) + order.substring(p + 2);
        }

        int drawn(String order, int k, int seed) {
            int all = 0;
            for (int p = 0; p + 1 < n; p++) {
                all += weights[p];
            }
            if (all == 0) {
                return -1;
            }
            String now = order;
            int x = seed;
            for (int i = 0; i < k; i++) {
                x = x * 1103515245 + 12345;
                int draw = (x >>> 8) % all;
                int p = 0;
                while (draw >= weights[p]) {
                    draw -= weights[p];
                    p++;
                }
                now = exchange(now, p);
            }
            return orders().indexOf(now);
        }

        boolean holds(int[] marks, int k) {
            for (String order : orders()) {
                boolean like = true;
                for (int i = 0; i < n; i++) {
                    like &= marks[order.charAt(i) - 'a'] == marks[i];
                }
                int steps = steps(order, orders().get(0));
                if (like && steps > 0 && steps <= 2 * k) {
                    return false;
                }
            }
            return true;
        }

        boolean holdsSense(String order) {
            for (String pair : senses) {
                int a = order.indexOf(pair.charAt(0));
                int b = order.indexOf(pair.charAt(1));
                if (a >= 0 && b >= 0 && a > b) {
                    return false;
                }
            }
            return true;
        }

        int song(String order) {
            int sum = 0;
            for (Map.Entry<String, Integer> e : rhymes.entrySet()) {
                sum += order.contains(e.getKey()) ? e.getValue() : 0;
            }
            return sum;
        }

        int said() {
            if (claim == null) {
                return -1;
            }
            int bits = 0;
            for (int c = 0; c < copies.size(); c++) {
                bits |= claim.of(copies.get(c)) ? 1 << c : 0;
            }
            return bits;
        }

        private void cut(String text, int most) {
            parts = new ArrayList<>();
            at = 0;
            Matcher matcher = Pattern.compile("[a-z0-9]+|[^ \n]").matcher(text);
            while (matcher.find() && matcher.start() < most) {
                parts.add(new Part(matcher.group(), matcher.start()));
            }
            parts.add(new Part(text.length() > most ? "!" : "", Math.min(most, text.length())));
        }

        private Part here() {
            return parts.get(at);
        }

        private void must(boolean fits, int kind) {
            if (!fits) {
                throw new Fault(kind, here().place);
            }
        }

        /** How many LINES, or -1 less the place of a FAULT; the model must be a new one. */
        int house(String text) {
            cut(text, 700);
            fault = 0;
            try {
                int count = 0;
                while (!here().text.isEmpty()) {
                    readLine(count);
                    count++;
                    pass(";");
                }
                return count;
            } catch (Fault f) {
                fault = f.kind;
                return -1 - f.place;
            }
        }

        private void pass(String sign) {
            must(here().text.equals(sign), 1);
            at++;
        }

        private void readLine(int ahead) {
            String kind = here().text;
            must(List.of("lines", "copy", "desk", "likely", "sense", "rhyme").contains(kind), 1);
            if (kind.equals("lines")) {
                must(ahead == desks.size(), 3);
            }
            must(!kind.equals("copy") || copies.size() < 10, 4);
            must(!kind.equals("desk") || desks.size() < 6, 4);
            must(!kind.equals("sense") || senses.size() < 12, 4);
            must(!kind.equals("rhyme") || rhymes.size() < 12, 4);
            at++;
            if (kind.equals("lines")) {
                n = number(2, 7);
            } else if (kind.equals("copy")) {
                String name = name();
                must(here().isWord(), 1);
                String order = here().text;
                must(order.matches("[a-" + (char) ('a' + n - 1) + "]+") && !order.matches(".*(.).*\\1.*"), 2);
                at++;
                names.add(name);
                copies.add(order);
            } else if (kind.equals("desk")) {
                deskNames.add(name());
                String way = here().text;
                must(List.of("swap", "most", "drops").contains(way), 1);
                at++;
                desks.add(way.equals("most") ? "most " + number(1, 9) : way);
            } else if (kind.equals("likely")) {
                Part place = here();
                int p = number(1, n - 1);
                if (told.contains(p)) {
                    throw new Fault(3, place.place);
                }
                told.add(p);
                weights[p - 1] = number(0, 9);
            } else {
                readPair(kind);
            }
        }

        private final List<Integer> told = new ArrayList<>();

        private void readPair(String kind) {
            String a = letter();
            Part second = here();
            String pair = a + letter();
            if (pair.charAt(0) == pair.charAt(1)
                    || (kind.equals("sense") ? senses.contains(pair) : rhymes.containsKey(pair))) {
                throw new Fault(3, second.place);
            }
            if (kind.equals("sense")) {
                senses.add(pair);
            } else {
                rhymes.put(pair, number(1, 99));
            }
        }

        private String letter() {
            must(here().isWord(), 1);
            must(here().text.matches("[a-" + (char) ('a' + n - 1) + "]"), 2);
            return parts.get(at++).text;
        }

        private int number(int low, int high) {
            must(here().isNumber(), 1);
            int number = Integer.parseInt(here().text);
            must(number >= low && number <= high, 2);
            at++;
            return number;
        }

        private String name() {
            String name = here().text;
            must(here().isWord() && !RESERVED.contains(" " + name + " "), 1);
            must(!names.contains(name) && !deskNames.contains(name), 3);
            at++;
            return name;
        }

        int sentence(String text) {
            cut(text, 200);
            fault = 0;
            ones = 0;
            try {
                Claim read = condition(1);
                must(here().text.isEmpty(), 1);
                claim = read;
                return ones;
            } catch (Fault f) {
                fault = f.kind;
                return -1 - f.place;
            }
        }

        private Claim condition(int depth) {
            Claim left = all(depth);
            if (!here().text.equals("or")) {
                return left;
            }
            at++;
            Claim right = condition(depth);
            return c -> left.of(c) || right.of(c);
        }

        private Claim all(int depth) {
            Claim left = one(depth);
            if (!here().text.equals("and")) {
                return left;
            }
            at++;
            Claim right = all(depth);
            return c -> left.of(c) && right.of(c);
        }

        private Claim one(int depth) {
            String kind = here().text;
            must(List.of("not", "(", "whole", "holds", "has", "ahead", "far", "steps", "song", "size")
                    .contains(kind), 1);
            must(ones < 20 && depth <= 8, 4);
            ones++;
            at++;
            if (kind.equals("not")) {
                Claim inner = one(depth + 1);
                return c -> !inner.of(c);
            } else if (kind.equals("(")) {
                Claim inner = condition(depth + 1);
                pass(")");
                return inner;
            } else if (kind.equals("whole")) {
                return c -> c.length() == n;
            } else if (kind.equals("holds")) {
                return this::holdsSense;
            } else if (kind.equals("has")) {
                String line = letter();
                return c -> c.contains(line);
            } else if (kind.equals("ahead")) {
                String one = letter();
                String other = letter();
                return c -> c.contains(one) && c.contains(other) && c.indexOf(one) < c.indexOf(other);
            }
            return measure(kind);
        }

        private Claim measure(String kind) {
            int copy = -1;
            if (kind.equals("far") || kind.equals("steps")) {
                String name = here().text;
                must(here().isWord() && !RESERVED.contains(" " + name + " "), 1);
                must(names.contains(name), 3);
                at++;
                copy = names.indexOf(name);
            }
            int other = copy;
            String sign = here().text;
            must(List.of("<", "=", ">").contains(sign), 1);
            at++;
            int number = number(0, 99);
            return c -> {
                int value = kind.equals("far") ? far(c, copies.get(other))
                        : kind.equals("steps") ? steps(c, copies.get(other))
                        : kind.equals("song") ? song(c) : c.length();
                return sign.equals("<") ? value < number : sign.equals("=") ? value == number : value > number;
            };
        }
    }
}
