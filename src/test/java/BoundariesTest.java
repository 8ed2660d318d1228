import java.util.ArrayList;
import java.util.Arrays;
import java.util.List;
import java.util.function.IntBinaryOperator;

/**
 * The document's boundary sentences, in its order, each with a test of its own. The due answers are counted by hand
 * or told by the graph's shape; only where a call has to change nothing (or a second one to undo the first), the
 * answers of an untouched object with the same lines are the due ones. What holds on the graphs in between is for
 * EveryGraphTest, and what holds at the 512th call for LongLifeTest.
 */
public final class BoundariesTest {
    private static final int BAD = -1;
    private static final int NO = -4;

    /** Just outside, far outside, and numbers that become a point if they are cut to fewer bits or used to shift. */
    private static final int[] OUTSIDE = {
        -1, 6, Integer.MIN_VALUE, Integer.MAX_VALUE,
        -6, -5, -2, 7, 8, 15, 16, 31, 32, 33, 37, 64, -32, -31, -27, 256, 257, -256, -251, 65536, 65541, -65536,
        Integer.MIN_VALUE + 1, Integer.MIN_VALUE + 5, Integer.MAX_VALUE - 1, Integer.MAX_VALUE - 31};

    /** A few of them, for the tests that ask an object everything after each refused call. */
    private static final int[] EDGES = {-1, 6, Integer.MIN_VALUE, Integer.MAX_VALUE};

    private static String sentence;
    private static int wrongHere;
    private static int sentences = 0;
    private static int broken = 0;

    private interface Check {
        void run();
    }

    private static void says(String words, Check check) {
        sentence = words;
        wrongHere = 0;
        sentences++;
        try {
            check.run();
        } catch (Throwable thrown) {
            wrong("a call threw " + thrown);
        }
        if (wrongHere > 0) {
            broken++;
            System.out.println("BROKEN (" + wrongHere + " answers): " + words);
        }
    }

    private static void wrong(String what) {
        wrongHere++;
        if (wrongHere <= 5) {
            System.out.println(sentence + ": " + what);
        }
    }

    private static void due(String call, int got, int want) {
        if (got != want) {
            wrong(call + " answered " + got + ", due is " + want);
        }
    }

    private static void due(String call, boolean got, boolean want) {
        if (got != want) {
            wrong(call + " answered " + got + ", due is " + want);
        }
    }

    private static void dueSame(String when, List<Integer> got, List<Integer> want) {
        if (!got.equals(want)) {
            wrong(when + ": all answers together are " + got + ", due are " + want);
        }
    }

    // ---- graphs

    private static LayoutWidths none() {
        return new LayoutWidths();
    }

    private static LayoutWidths graph(int... ends) {
        LayoutWidths x = new LayoutWidths();
        for (int k = 0; k < ends.length; k += 2) {
            x.line(ends[k], ends[k + 1]);
        }
        return x;
    }

    private static LayoutWidths full() {
        LayoutWidths x = new LayoutWidths();
        for (int p = 0; p < 6; p++) {
            for (int q = p + 1; q < 6; q++) {
                x.line(p, q);
            }
        }
        return x;
    }

    private static LayoutWidths fullBut(int p, int q) {
        LayoutWidths x = full();
        x.line(p, q);
        return x;
    }

    private static LayoutWidths ring() {
        return graph(0, 1, 1, 2, 2, 3, 3, 4, 4, 5, 5, 0);
    }

    private static LayoutWidths ringOfFour() {
        return graph(0, 1, 1, 2, 2, 3, 3, 0);
    }

    private static LayoutWidths star(int middle) {
        LayoutWidths x = new LayoutWidths();
        for (int p = 0; p < 6; p++) {
            if (p != middle) {
                x.line(middle, p);
            }
        }
        return x;
    }

    private static LayoutWidths path(int... points) {
        LayoutWidths x = new LayoutWidths();
        for (int i = 0; i + 1 < points.length; i++) {
            x.line(points[i], points[i + 1]);
        }
        return x;
    }

    /** A triangle 0, 1, 2 with a further triangle on each side. */
    private static LayoutWidths sun() {
        return graph(0, 1, 1, 2, 2, 0, 3, 0, 3, 1, 4, 1, 4, 2, 5, 2, 5, 0);
    }

    /** No line, all lines, all but one, and two between; the number tells which, so that each can be made anew. */
    private static LayoutWidths sample(int number) {
        switch (number) {
            case 0:
                return none();
            case 1:
                return full();
            case 2:
                return fullBut(0, 5);
            case 3:
                return ring();
            default:
                return graph(5, 3, 3, 0, 0, 5, 0, 4);
        }
    }

    private static final int SAMPLES = 5;

    private interface PairCheck {
        void run(int p, int q);
    }

    /** All pairs of different points, each both ways. */
    private static void forPairs(PairCheck check) {
        for (int p = 0; p < 6; p++) {
            for (int q = 0; q < 6; q++) {
                if (p != q) {
                    check.run(p, q);
                }
            }
        }
    }

    private interface OrderCheck {
        void run(int[] order);
    }

    private static void forOrders(OrderCheck check) {
        forOrdersFrom(new int[6], 0, 0, check);
    }

    private static void forOrdersFrom(int[] order, int count, int used, OrderCheck check) {
        if (count == 6) {
            check.run(order);
            return;
        }
        for (int p = 0; p < 6; p++) {
            if ((used >> p & 1) == 0) {
                order[count] = p;
                forOrdersFrom(order, count + 1, used | 1 << p, check);
            }
        }
    }

    // ---- all answers of an object

    /** All answers about the graph that name no pair of points: 24 calls. */
    private static List<Integer> numbers(LayoutWidths x) {
        List<Integer> all = new ArrayList<>(Arrays.asList(x.lines(), x.cutWidth(), x.separation(), x.stretch(), x.length(),
            x.width(), x.fill(), x.cutOrders(), x.lengthOrders(), x.fillOrders(), x.whole() ? 1 : 0, x.clique()));
        for (int i = 0; i < 6; i++) {
            all.add(x.lengthOrder(i));
        }
        for (int i = 0; i < 6; i++) {
            all.add(x.widthOrder(i));
        }
        return all;
    }

    /** All that can be asked, and at the end each line by itself, turned and turned back: 84 calls. */
    private static List<Integer> everything(LayoutWidths x) {
        List<Integer> all = numbers(x);
        forPairs((p, q) -> all.add(x.growth(p, q)));
        forPairs((p, q) -> {
            if (p < q) {
                all.add(x.line(p, q));
                all.add(x.line(q, p));
            }
        });
        return all;
    }

    private static void dueNoLine(String when, LayoutWidths x) {
        dueSame(when, numbers(x), Arrays.asList(0, 0, 0, 0, 0, 0, 0, 720, 720, 720, 1, 1,
            0, 1, 2, 3, 4, 5, 0, 1, 2, 3, 4, 5));
    }

    private static int[] inOrder(LayoutWidths x, boolean byLength) {
        int[] order = new int[6];
        for (int i = 0; i < 6; i++) {
            order[i] = byLength ? x.lengthOrder(i) : x.widthOrder(i);
        }
        return order;
    }

    private static void dueOrder(String name, int[] got, int... want) {
        if (!Arrays.equals(got, want)) {
            wrong(name + " is " + Arrays.toString(got) + ", due is " + Arrays.toString(want));
        }
    }

    public static void main(String[] args) {
        terms();
        measures();
        takingApart();
        leastOfAll();
        refusals();
        constants();
        changing();
        rowPromises();
        apartPromises();
        countPromises();
        orderPromises();
        lastPromises();
        System.out.println(sentences + " sentences, " + broken + " broken");
        if (broken != 0) {
            System.exit(1);
        }
    }

    // ---- Terms: points, lines, orders and places

    private static void terms() {
        says("Terms: POINTS are 0 to 5", () -> {
            for (int p = 0; p < 6; p++) {
                due("line with point " + p, none().line(p, (p + 1) % 6), 1);
            }
            due("line with point -1", none().line(-1, 0), BAD);
            due("line with point 6", none().line(0, 6), BAD);
        });
        says("Terms: LINES join two different points", () -> {
            for (int p = 0; p < 6; p++) {
                LayoutWidths x = none();
                x.line(p, p);
                due("lines() after line(" + p + ", " + p + ")", x.lines(), 0);
            }
        });
        says("Terms: between two points there is a line or none", () -> forPairs((p, q) -> {
            LayoutWidths x = none();
            x.line(p, q);
            x.line(q, p);
            due("lines() after the same line from both ends", x.lines(), 0);
            x.line(p, q);
            x.line(p, q);
            x.line(q, p);
            due("lines() after it was turned five times", x.lines(), 1);
        }));
        says("Terms: an ORDER is a list of all six points", () -> {
            for (int number = 0; number < SAMPLES; number++) {
                dueAllSix("lengthOrder of graph " + number, inOrder(sample(number), true));
                dueAllSix("widthOrder of graph " + number, inOrder(sample(number), false));
            }
            forPairs((p, q) -> {
                dueAllSix("lengthOrder of one line, four points alone", inOrder(graph(p, q), true));
                dueAllSix("widthOrder of one line, four points alone", inOrder(graph(p, q), false));
            });
        });
        says("Terms: at the PLACES 0 to 5", () -> {
            // The line 0-5 has to lie on neighbouring places, and 5 then comes to the second place.
            due("place 0", graph(0, 5).lengthOrder(0), 0);
            due("place 1", graph(0, 5).lengthOrder(1), 5);
            due("place 5", graph(0, 5).lengthOrder(5), 4);
            due("place -1", graph(0, 5).lengthOrder(-1), NO);
            due("place 6", graph(0, 5).lengthOrder(6), NO);
        });
    }

    private static void dueAllSix(String name, int[] order) {
        int[] sorted = order.clone();
        Arrays.sort(sorted);
        dueOrder(name + ", sorted,", sorted, 0, 1, 2, 3, 4, 5);
    }

    // ---- Terms: the numbers of an order in a row

    private static void measures() {
        says("Terms: its CUT at place i (0 to 4)", () -> {
            // Without the cut at place 0 or at place 4 a single line could be hidden at that end.
            forPairs((p, q) -> due("one line: cutWidth()", graph(p, q).cutWidth(), 1));
            forPairs((p, q) -> due("one line: cutOrders()", graph(p, q).cutOrders(), 720));
        });
        says("Terms: from a point at a place up to i to one at a later place", () -> {
            // The middle lies at place 2 or 3, with two lines to one side and three to the other.
            due("star: cutWidth()", star(0).cutWidth(), 3);
            due("path: cutWidth()", path(0, 1, 2, 3, 4, 5).cutWidth(), 1);
        });
        says("Terms: its CUT WIDTH is the greatest cut", () -> {
            // The cuts of all lines are 5, 8, 9, 8, 5 in every order.
            due("all lines: cutWidth()", full().cutWidth(), 9);
        });
        says("Terms: its SEPARATION at place i (0 to 5)", () -> {
            forPairs((p, q) -> due("one line: separation()", graph(p, q).separation(), 1));
            // All six points are at places up to 5, but none has a line to a later one there.
            due("all lines: separation()", full().separation(), 5);
        });
        says("Terms: the number of points ... that have a line to a point at a later place", () -> {
            for (int p = 0; p < 6; p++) {
                due("star, its five lines from one point: separation()", star(p).separation(), 1);
            }
        });
        says("Terms: its SEPARATION WIDTH is the greatest of these", () -> {
            due("ring: separation()", ring().separation(), 2);
            due("all lines but one: separation()", fullBut(2, 4).separation(), 4);
        });
        says("Terms: its STRETCH is the greatest difference of the places of two points with a line", () -> {
            forPairs((p, q) -> due("one line: stretch()", graph(p, q).stretch(), 1));
            due("all lines: stretch()", full().stretch(), 5);
            forPairs((p, q) -> due("all lines but one: stretch()", fullBut(p, q).stretch(), 4));
        });
        says("Terms: (0 if there is no line)", () -> {
            due("new: stretch()", none().stretch(), 0);
            LayoutWidths x = graph(0, 5, 5, 0);
            due("a line put in and taken out: stretch()", x.stretch(), 0);
            LayoutWidths y = full();
            y.clear();
            due("all lines cleared: stretch()", y.stretch(), 0);
        });
        says("Terms: its LENGTH is the sum of these differences over all lines", () -> {
            due("no line: length()", none().length(), 0);
            forPairs((p, q) -> due("one line: length()", graph(p, q).length(), 1));
            // Five lines over one place, four over two, three over three, two over four, one over five.
            due("all lines: length()", full().length(), 35);
            forPairs((p, q) -> due("all lines but one: length()", fullBut(p, q).length(), 30));
        });
    }

    // ---- Terms: taking apart

    private static void takingApart() {
        says("Terms: lines are put in between all those of its neighbours", () -> {
            // Three against three: the first point out has three neighbours without a line between them.
            LayoutWidths x = graph(0, 3, 0, 4, 0, 5, 1, 3, 1, 4, 1, 5, 2, 3, 2, 4, 2, 5);
            due("three against three: fill()", x.fill(), 3);
            due("three against three: width()", x.width(), 3);
        });
        says("Terms: (points with a line to it)", () -> {
            due("four points with no neighbour: width()", graph(1, 4).width(), 1);
            due("four points with no neighbour: fillOrders()", graph(1, 4).fillOrders(), 720);
        });
        says("Terms: that are still there", () -> {
            due("path: width()", path(0, 1, 2, 3, 4, 5).width(), 1);
            due("path: fill()", path(0, 1, 2, 3, 4, 5).fill(), 0);
            // The middle is the last of all or the last but one.
            due("star: fillOrders()", star(3).fillOrders(), 240);
        });
        says("Terms: and have no line between them", () -> {
            due("all lines: fill()", full().fill(), 0);
            due("triangle: fill()", graph(0, 1, 1, 2, 2, 0).fill(), 0);
            // The two neighbours of 1, and those of 3, are joined by the line across.
            due("ring of four with one line across: fill()", graph(0, 1, 1, 2, 2, 3, 3, 0, 0, 2).fill(), 0);
        });
        says("Terms: and then its lines go", () -> {
            due("all lines: width()", full().width(), 5);
            forPairs((p, q) -> due("all lines but one: width()", fullBut(p, q).width(), 4));
            due("star: width()", star(0).width(), 1);
        });
        says("Terms: Its WIDTH is the greatest number of neighbours that a point has when it is taken out", () -> {
            due("no line: width()", none().width(), 0);
            forPairs((p, q) -> due("one line: width()", graph(p, q).width(), 1));
            due("ring: width()", ring().width(), 2);
        });
        says("Terms: its FILL is the number of lines put in, all together", () -> {
            // A ring of n needs n - 3 lines, one for each of the first n - 3 points out.
            due("ring of three: fill()", graph(0, 1, 1, 2, 2, 0).fill(), 0);
            due("ring of four: fill()", ringOfFour().fill(), 1);
            due("ring of five: fill()", graph(0, 1, 1, 2, 2, 3, 3, 4, 4, 0).fill(), 2);
            due("ring of six: fill()", ring().fill(), 3);
        });
    }

    private static void leastOfAll() {
        says("Terms: For each of these numbers, the graph's is the least one of all orders", () -> forOrders(order -> {
            // A path is narrowest in one order and its reverse alone, and every order is that of some path.
            LayoutWidths x = path(order);
            String name = "path " + Arrays.toString(order);
            due(name + ": cutWidth()", x.cutWidth(), 1);
            due(name + ": separation()", x.separation(), 1);
            due(name + ": stretch()", x.stretch(), 1);
            due(name + ": length()", x.length(), 5);
            due(name + ": width()", x.width(), 1);
            due(name + ": fill()", x.fill(), 0);
        }));
    }

    // ---- "No call ever throws. A refused call answers the code named and changes nothing."

    private static void refusals() {
        says("Terms: No call ever throws", () -> {
            for (int number = 0; number < SAMPLES; number++) {
                for (int a : OUTSIDE) {
                    // Only that they come back at all: what they answer is for the promises below.
                    LayoutWidths x = sample(number);
                    x.lengthOrder(a);
                    x.widthOrder(a);
                    for (int b : OUTSIDE) {
                        x.line(a, b);
                        x.growth(a, b);
                    }
                    for (int p = 0; p < 6; p++) {
                        x.line(a, p);
                        x.line(p, a);
                        x.growth(a, p);
                        x.growth(p, a);
                    }
                }
                everything(sample(number));
            }
        });
        says("Terms: A refused call answers the code named and changes nothing (line)",
            () -> refusedPairs("line", (x, p, q) -> x.line(p, q)));
        says("Terms: A refused call answers the code named and changes nothing (growth)",
            () -> refusedPairs("growth", (x, p, q) -> x.growth(p, q)));
        says("Terms: A refused call answers the code named and changes nothing (lengthOrder)",
            () -> refusedPlaces("lengthOrder", (x, i) -> x.lengthOrder(i)));
        says("Terms: A refused call answers the code named and changes nothing (widthOrder)",
            () -> refusedPlaces("widthOrder", (x, i) -> x.widthOrder(i)));
        says("Terms: changes nothing (a refused call as the very first)", () -> {
            List<Integer> want = everything(none());
            for (int a : OUTSIDE) {
                LayoutWidths x = none();
                x.line(a, 0);
                x.growth(0, a);
                x.lengthOrder(a);
                x.widthOrder(a);
                dueSame("new object after refused calls with " + a, everything(x), want);
            }
        });
    }

    private interface PairCall {
        int of(LayoutWidths x, int p, int q);
    }

    private interface PlaceCall {
        int of(LayoutWidths x, int i);
    }

    private static List<int[]> wrongPairs(int[] outside) {
        List<int[]> pairs = new ArrayList<>();
        for (int a : outside) {
            for (int p = 0; p < 6; p++) {
                pairs.add(new int[] {a, p});
                pairs.add(new int[] {p, a});
            }
            for (int b : outside) {
                pairs.add(new int[] {a, b});
            }
        }
        for (int p = 0; p < 6; p++) {
            pairs.add(new int[] {p, p});
        }
        return pairs;
    }

    private static void refusedPairs(String name, PairCall call) {
        for (int number = 0; number < SAMPLES; number++) {
            List<Integer> want = everything(sample(number));
            for (int[] pair : wrongPairs(EDGES)) {
                LayoutWidths x = sample(number);
                String asked = "graph " + number + ": " + name + "(" + pair[0] + ", " + pair[1] + ")";
                due(asked, call.of(x, pair[0], pair[1]), BAD);
                dueSame("after " + asked, everything(x), want);
            }
        }
    }

    private static void refusedPlaces(String name, PlaceCall call) {
        for (int number = 0; number < SAMPLES; number++) {
            List<Integer> want = everything(sample(number));
            for (int i : OUTSIDE) {
                LayoutWidths x = sample(number);
                String asked = "graph " + number + ": " + name + "(" + i + ")";
                due(asked, call.of(x, i), NO);
                dueSame("after " + asked, everything(x), want);
            }
        }
    }

    private static void constants() {
        says("BAD_ARG = -1: An argument is out of its range", () -> {
            due("BAD_ARG", LayoutWidths.BAD_ARG, -1);
            due("line(6, 0)", none().line(6, 0), LayoutWidths.BAD_ARG);
            due("growth(6, 0)", none().growth(6, 0), LayoutWidths.BAD_ARG);
        });
        says("NONE = -4: There is no such thing", () -> {
            due("NONE", LayoutWidths.NONE, -4);
            due("lengthOrder(6)", none().lengthOrder(6), LayoutWidths.NONE);
            due("widthOrder(6)", none().widthOrder(6), LayoutWidths.NONE);
        });
    }

    // ---- Promises 1 to 4

    private static void changing() {
        says("Promise 1: No line", () -> {
            due("clear()", none().clear(), 0);
            dueNoLine("new object", none());
            forPairs((p, q) -> due("new: line(" + p + ", " + q + ")", none().line(p, q), 1));
            forPairs((p, q) -> due("new: growth(" + p + ", " + q + ")", none().growth(p, q), 1));
            LayoutWidths other = full();
            dueNoLine("new object beside one with all lines", none());
            due("the one with all lines: lines()", other.lines(), 15);
        });
        says("Promise 2: Puts a line between p and q in, if there is none", () -> forPairs((p, q) -> {
            LayoutWidths x = none();
            x.line(p, q);
            dueSame("one line " + p + "-" + q, numbers(x), oneLine(Math.min(p, q), Math.max(p, q)));
        }));
        says("Promise 2: else takes it out", () -> forPairs((p, q) -> {
            dueNoLine("the only line out, same way", graph(p, q, p, q));
            dueNoLine("the only line out, other way", graph(p, q, q, p));
            dueSame("one of all lines out", numbers(fullBut(p, q)), allButOne(Math.min(p, q), Math.max(p, q)));
        }));
        says("Promise 2: put in, taken out and put in again", () -> {
            for (int number = 0; number < SAMPLES; number++) {
                int which = number;
                List<Integer> want = everything(sample(number));
                forPairs((p, q) -> {
                    LayoutWidths x = sample(which);
                    int first = x.line(p, q);
                    List<Integer> between = everything(x);
                    due("the line turned back", x.line(q, p), 1 - first);
                    dueSame("turned and turned back", everything(x), want);
                    due("the line turned a third time", x.line(p, q), first);
                    dueSame("turned three times", everything(x), between);
                });
            }
        });
        says("Promise 2: BAD_ARG if p or q is not 0 to 5", () -> dueBad("line", (p, q) -> ring().line(p, q)));
        says("Promise 2: or they are the same", () -> {
            for (int p = 0; p < 6; p++) {
                due("no line: line(" + p + ", " + p + ")", none().line(p, p), BAD);
                due("all lines: line(" + p + ", " + p + ")", full().line(p, p), BAD);
            }
            for (int a : OUTSIDE) {
                due("line(" + a + ", " + a + ")", none().line(a, a), BAD);
            }
        });
        says("Promise 2: Otherwise 1 if there is one now, else 0", () -> forPairs((p, q) -> {
            LayoutWidths x = none();
            due("put in", x.line(p, q), 1);
            due("taken out", x.line(p, q), 0);
            due("put in from the other end", x.line(q, p), 1);
            due("taken out from this end", x.line(p, q), 0);
            LayoutWidths y = full();
            due("taken out of all", y.line(p, q), 0);
            due("put in as the last", y.line(p, q), 1);
        }));
        says("Promise 3: Takes all lines out", () -> {
            List<Integer> want = everything(none());
            for (int number = 0; number < SAMPLES; number++) {
                LayoutWidths x = sample(number);
                x.clear();
                dueNoLine("graph " + number + " cleared", x);
                dueSame("graph " + number + " cleared", everything(x), want);
            }
            LayoutWidths y = full();
            y.clear();
            forPairs((p, q) -> {
                due("cleared: line(" + p + ", " + q + ")", y.line(p, q), 1);
                due("cleared: line(" + p + ", " + q + ") again", y.line(p, q), 0);
            });
        });
        says("Promise 3: Answers how many there were", () -> {
            due("no line: clear()", none().clear(), 0);
            forPairs((p, q) -> due("one line: clear()", graph(p, q).clear(), 1));
            forPairs((p, q) -> due("all lines but one: clear()", fullBut(p, q).clear(), 14));
            LayoutWidths x = full();
            due("all lines: clear()", x.clear(), 15);
            due("clear() again", x.clear(), 0);
            x.line(0, 5);
            x.line(4, 5);
            x.line(0, 5);
            due("two in, one out: clear()", x.clear(), 1);
        });
        says("Promise 4: The number of lines", () -> {
            LayoutWidths x = none();
            due("no line: lines()", x.lines(), 0);
            for (int p = 0, count = 0; p < 6; p++) {
                for (int q = p + 1; q < 6; q++) {
                    x.line(p, q);
                    due("lines() on the way up", x.lines(), ++count);
                }
            }
            due("all lines: lines()", x.lines(), 15);
            for (int p = 5, count = 15; p >= 0; p--) {
                for (int q = 0; q < p; q++) {
                    x.line(p, q);
                    due("lines() on the way down", x.lines(), --count);
                }
            }
        });
    }

    /** Counted by hand for the points a < b: with one line, they have to lie side by side for the least length. */
    private static List<Integer> oneLine(int a, int b) {
        List<Integer> want = new ArrayList<>(Arrays.asList(1, 1, 1, 1, 1, 1, 0, 720, 240, 720, 1, 2));
        List<Integer> order = new ArrayList<>(Arrays.asList(0, 1, 2, 3, 4, 5));
        order.remove(Integer.valueOf(b));
        order.add(a + 1, b);
        want.addAll(order);
        want.addAll(Arrays.asList(0, 1, 2, 3, 4, 5));
        return want;
    }

    /**
     * Counted by hand for the missing line a-b, a < b: the two lie on different halves of the row for the least cut
     * (18 of 30 ways), at its two ends for the least length, and one of them goes first for the least width and fill.
     */
    private static List<Integer> allButOne(int a, int b) {
        List<Integer> want = new ArrayList<>(Arrays.asList(14, 8, 4, 4, 30, 4, 0, 432, 48, 240, 1, 5));
        List<Integer> middle = new ArrayList<>(Arrays.asList(0, 1, 2, 3, 4, 5));
        middle.remove(Integer.valueOf(a));
        List<Integer> afterFirst = new ArrayList<>(middle);
        middle.remove(Integer.valueOf(b));
        want.add(a);
        want.addAll(middle);
        want.add(b);
        want.add(a);
        want.addAll(afterFirst);
        return want;
    }

    private static void dueBad(String name, IntBinaryOperator call) {
        for (int a : OUTSIDE) {
            for (int p = 0; p < 6; p++) {
                due(name + "(" + a + ", " + p + ")", call.applyAsInt(a, p), BAD);
                due(name + "(" + p + ", " + a + ")", call.applyAsInt(p, a), BAD);
            }
            for (int b : OUTSIDE) {
                due(name + "(" + a + ", " + b + ")", call.applyAsInt(a, b), BAD);
            }
        }
    }

    // ---- Promises 5 to 10: no line, all lines, and the step next to each

    private static void rowPromises() {
        says("Promise 5: The graph's cut width", () -> {
            due("no line: cutWidth()", none().cutWidth(), 0);
            forPairs((p, q) -> due("one line: cutWidth()", graph(p, q).cutWidth(), 1));
            forPairs((p, q) -> due("all lines but one: cutWidth()", fullBut(p, q).cutWidth(), 8));
            due("all lines: cutWidth()", full().cutWidth(), 9);
        });
        says("Promise 6: The graph's separation width", () -> {
            due("no line: separation()", none().separation(), 0);
            forPairs((p, q) -> due("one line: separation()", graph(p, q).separation(), 1));
            forPairs((p, q) -> due("all lines but one: separation()", fullBut(p, q).separation(), 4));
            due("all lines: separation()", full().separation(), 5);
            // Three points have at most two open ones only as an outer triangle; every fourth point opens a third.
            due("sun: separation()", sun().separation(), 3);
        });
        says("Promise 7: The graph's stretch", () -> {
            due("no line: stretch()", none().stretch(), 0);
            forPairs((p, q) -> due("one line: stretch()", graph(p, q).stretch(), 1));
            forPairs((p, q) -> due("all lines but one: stretch()", fullBut(p, q).stretch(), 4));
            due("all lines: stretch()", full().stretch(), 5);
        });
        says("Promise 8: The graph's length", () -> {
            due("no line: length()", none().length(), 0);
            forPairs((p, q) -> due("one line: length()", graph(p, q).length(), 1));
            forPairs((p, q) -> due("all lines but one: length()", fullBut(p, q).length(), 30));
            due("all lines: length()", full().length(), 35);
        });
    }

    private static void apartPromises() {
        says("Promise 9: The graph's width", () -> {
            due("no line: width()", none().width(), 0);
            forPairs((p, q) -> due("one line: width()", graph(p, q).width(), 1));
            forPairs((p, q) -> due("all lines but one: width()", fullBut(p, q).width(), 4));
            due("all lines: width()", full().width(), 5);
            // Taken apart from its three outer points inwards, it is narrower than in a row.
            due("sun: width()", sun().width(), 2);
        });
        says("Promise 10: The graph's fill", () -> {
            due("no line: fill()", none().fill(), 0);
            due("all lines: fill()", full().fill(), 0);
            forPairs((p, q) -> due("all lines but one: fill()", fullBut(p, q).fill(), 0));
            // All but three lines that share no point: every point misses one, so two have to come in.
            due("all lines but three: fill()", without(0, 1, 2, 3, 4, 5).fill(), 2);
        });
    }

    private static LayoutWidths without(int... ends) {
        LayoutWidths x = full();
        for (int k = 0; k < ends.length; k += 2) {
            x.line(ends[k], ends[k + 1]);
        }
        return x;
    }

    // ---- Promises 11 to 13

    private static void countPromises() {
        says("Promise 11: The number of orders with the least cut width", () -> {
            due("no line: cutOrders()", none().cutOrders(), 720);
            due("all lines: cutOrders()", full().cutOrders(), 720);
            forPairs((p, q) -> due("all lines but one: cutOrders()", fullBut(p, q).cutOrders(), 432));
            forOrders(order -> due("path: cutOrders()", path(order).cutOrders(), 2));
            // Two lines apart from each other: a third of the orders has one wholly before the other.
            due("two lines: cutOrders()", graph(0, 5, 1, 4).cutOrders(), 240);
        });
        says("Promise 12: The number of orders with the least length", () -> {
            due("no line: lengthOrders()", none().lengthOrders(), 720);
            due("all lines: lengthOrders()", full().lengthOrders(), 720);
            forPairs((p, q) -> due("one line: lengthOrders()", graph(p, q).lengthOrders(), 240));
            forPairs((p, q) -> due("all lines but one: lengthOrders()", fullBut(p, q).lengthOrders(), 48));
            forOrders(order -> due("path: lengthOrders()", path(order).lengthOrders(), 2));
            // 3, 0 and then 1 and 2, read from either end, with 4 and 5 outside: more orders have the least stretch.
            due("triangle with a tail: lengthOrders()", graph(0, 1, 1, 2, 2, 0, 0, 3).lengthOrders(), 24);
        });
        says("Promise 13: The number of orders with the least fill", () -> {
            due("no line: fillOrders()", none().fillOrders(), 720);
            due("all lines: fillOrders()", full().fillOrders(), 720);
            forPairs((p, q) -> due("all lines but one: fillOrders()", fullBut(p, q).fillOrders(), 240));
            // A path's end has to go each time, one of two until one point is left.
            forOrders(order -> due("path: fillOrders()", path(order).fillOrders(), 32));
            // 3 first and then any, or 1 or 2 first and not 0 next: 14 of 24; more orders have the least width.
            due("triangle with a tail: fillOrders()", graph(0, 1, 1, 2, 2, 0, 0, 3).fillOrders(), 420);
            // Whichever point of a ring goes, the ring that is left is shorter by one.
            due("ring: fillOrders()", ring().fillOrders(), 720);
        });
    }

    // ---- Promises 14 and 15

    private static void orderPromises() {
        says("Promise 14: The point at place i of the first order, as in a dictionary, with the least length", () -> {
            dueOrder("no line: lengthOrder", inOrder(none(), true), 0, 1, 2, 3, 4, 5);
            dueOrder("all lines: lengthOrder", inOrder(full(), true), 0, 1, 2, 3, 4, 5);
            forOrders(order -> dueOrder("path: lengthOrder", inOrder(path(order), true), lesserEndFirst(order)));
            for (int middle = 0; middle < 6; middle++) {
                dueOrder("star: lengthOrder", inOrder(star(middle), true), starByLength(middle));
            }
            // The line 3-5 may go over 4 for the least stretch, but not for the least length.
            dueOrder("triangle and line: lengthOrder", inOrder(graph(0, 1, 1, 2, 2, 0, 3, 5), true), 0, 1, 2, 3, 5, 4);
            dueOrder("all lines but 0-1: lengthOrder", inOrder(fullBut(1, 0), true), 0, 2, 3, 4, 5, 1);
            dueOrder("all lines but 4-5: lengthOrder", inOrder(fullBut(5, 4), true), 4, 0, 1, 2, 3, 5);
        });
        says("Promise 14: NONE if i is not 0 to 5", () -> {
            for (int number = 0; number < SAMPLES; number++) {
                for (int i : OUTSIDE) {
                    due("graph " + number + ": lengthOrder(" + i + ")", sample(number).lengthOrder(i), NO);
                }
            }
        });
        says("Promise 15: The same with the least width (the first order, as in a dictionary)", () -> {
            dueOrder("no line: widthOrder", inOrder(none(), false), 0, 1, 2, 3, 4, 5);
            dueOrder("all lines: widthOrder", inOrder(full(), false), 0, 1, 2, 3, 4, 5);
            forOrders(order -> dueOrder("path: widthOrder", inOrder(path(order), false), leastEndEachTime(order)));
            for (int middle = 0; middle < 6; middle++) {
                dueOrder("star: widthOrder", inOrder(star(middle), false), starByWidth(middle));
            }
            // 0 may go second for the least width, 2, though a line comes in between 2 and 3; not for the least fill.
            dueOrder("triangle with a tail: widthOrder", inOrder(graph(0, 1, 1, 2, 2, 0, 0, 3), false), 1, 0, 2, 3, 4, 5);
            dueOrder("all lines but 0-1: widthOrder", inOrder(fullBut(1, 0), false), 0, 1, 2, 3, 4, 5);
            dueOrder("all lines but 4-5: widthOrder", inOrder(fullBut(5, 4), false), 4, 0, 1, 2, 3, 5);
        });
        says("Promise 15: The same (NONE if i is not 0 to 5)", () -> {
            for (int number = 0; number < SAMPLES; number++) {
                for (int i : OUTSIDE) {
                    due("graph " + number + ": widthOrder(" + i + ")", sample(number).widthOrder(i), NO);
                }
            }
        });
    }

    private static int[] lesserEndFirst(int[] path) {
        int[] want = path.clone();
        if (path[0] > path[5]) {
            for (int i = 0; i < 6; i++) {
                want[i] = path[5 - i];
            }
        }
        return want;
    }

    /** A path's inner points have two neighbours as long as both its parts are there, so only its ends may go. */
    private static int[] leastEndEachTime(int[] path) {
        int[] want = new int[6];
        int from = 0;
        int to = 5;
        for (int i = 0; i < 6; i++) {
            want[i] = path[from] < path[to] ? path[from++] : path[to--];
        }
        return want;
    }

    private static List<Integer> leaves(int middle) {
        List<Integer> leaves = new ArrayList<>(Arrays.asList(0, 1, 2, 3, 4, 5));
        leaves.remove(Integer.valueOf(middle));
        return leaves;
    }

    private static int[] withMiddleAt(int place, int middle) {
        List<Integer> order = leaves(middle);
        order.add(place, middle);
        return order.stream().mapToInt(p -> p).toArray();
    }

    /** The middle lies at place 2 or 3; of the two rows of points in rising order the first is the due one. */
    private static int[] starByLength(int middle) {
        int[] left = withMiddleAt(2, middle);
        int[] right = withMiddleAt(3, middle);
        return Arrays.compare(left, right) < 0 ? left : right;
    }

    /** The middle goes as the last of all or the last but one. */
    private static int[] starByWidth(int middle) {
        int[] lastButOne = withMiddleAt(4, middle);
        int[] last = withMiddleAt(5, middle);
        return Arrays.compare(lastButOne, last) < 0 ? lastButOne : last;
    }

    // ---- Promises 16 to 18

    private static void lastPromises() {
        says("Promise 16: Whether the fill is 0", () -> {
            due("no line: whole()", none().whole(), true);
            due("all lines: whole()", full().whole(), true);
            LayoutWidths x = ringOfFour();
            due("fill of one: whole()", x.whole(), false);
            x.line(0, 2);
            due("that line put in: whole()", x.whole(), true);
            x.line(0, 2);
            due("and taken out: whole()", x.whole(), false);
            due("fill of three: whole()", ring().whole(), false);
            x.clear();
            due("cleared: whole()", x.whole(), true);
        });
        says("Promise 17: By how much the width would grow", () -> {
            forPairs((p, q) -> due("no line: growth", none().growth(p, q), 1));
            forPairs((p, q) -> due("the last line of all: growth", fullBut(p, q).growth(p, q), 1));
            due("ring of four, a line across: growth(0, 2)", ringOfFour().growth(0, 2), 0);
            due("path of three closed: growth(0, 2)", graph(0, 1, 1, 2).growth(0, 2), 1);
            due("two lines joined: growth(1, 2)", graph(0, 1, 2, 3).growth(1, 2), 0);
        });
        says("Promise 17: would ... if the line were put in (it isn't)", () -> {
            for (int number = 0; number < SAMPLES; number++) {
                int which = number;
                List<Integer> want = everything(sample(number));
                forPairs((p, q) -> {
                    LayoutWidths x = sample(which);
                    x.growth(p, q);
                    dueSame("graph " + which + " after growth(" + p + ", " + q + ")", everything(x), want);
                });
            }
        });
        says("Promise 17: (0 if there is one)", () -> {
            forPairs((p, q) -> due("all lines: growth", full().growth(p, q), 0));
            // Without its only line the width would be less, and from the other end the line is the same one.
            forPairs((p, q) -> due("one line: growth", graph(p, q).growth(p, q), 0));
            forPairs((p, q) -> due("one line: growth from the other end", graph(p, q).growth(q, p), 0));
            LayoutWidths x = graph(0, 1, 1, 2);
            due("path of three: growth(0, 2)", x.growth(0, 2), 1);
            x.line(2, 0);
            due("put in: growth(0, 2)", x.growth(0, 2), 0);
            x.line(0, 2);
            due("taken out: growth(0, 2)", x.growth(0, 2), 1);
            x.line(0, 2);
            due("put in again: growth(2, 0)", x.growth(2, 0), 0);
        });
        says("Promise 17: BAD_ARG if p or q is not 0 to 5", () -> dueBad("growth", (p, q) -> ring().growth(p, q)));
        says("Promise 17: or they are the same", () -> {
            for (int p = 0; p < 6; p++) {
                due("no line: growth(" + p + ", " + p + ")", none().growth(p, p), BAD);
                due("all lines: growth(" + p + ", " + p + ")", full().growth(p, p), BAD);
            }
            for (int a : OUTSIDE) {
                due("growth(" + a + ", " + a + ")", none().growth(a, a), BAD);
            }
        });
        says("Promise 18: The greatest number of points of which every two have a line between them", () -> {
            // One point by itself has no two, so it counts.
            due("no line: clique()", none().clique(), 1);
            forPairs((p, q) -> due("one line: clique()", graph(p, q).clique(), 2));
            forPairs((p, q) -> due("all lines but one: clique()", fullBut(p, q).clique(), 5));
            due("all lines: clique()", full().clique(), 6);
            due("all lines but three: clique()", without(0, 1, 2, 3, 4, 5).clique(), 3);
            cliquesOfEverySet();
        });
    }

    /** Each set of points with all its lines and no other. */
    private static void cliquesOfEverySet() {
        for (int set = 1; set < 64; set++) {
            int points = set;
            LayoutWidths x = none();
            forPairs((p, q) -> {
                if (p < q && (points >> p & 1) == 1 && (points >> q & 1) == 1) {
                    x.line(p, q);
                }
            });
            due("all lines of the set " + set + ": clique()", x.clique(), Integer.bitCount(set));
        }
    }
}
