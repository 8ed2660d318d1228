import java.util.Arrays;

/**
 * Every graph there is, all 32768, against a reference that works another way: it goes over the sets of points
 * already laid out (or taken out) and not over the orders. A way from the set of no points to that of all points,
 * point by point, is an order, and what a point costs depends on the set before it alone.
 */
public final class EveryGraphTest {
    private static final int ALL = 63;
    private static int wrong = 0;

    private static boolean[][] line;
    private static int mask;

    // What the last run over the sets found.
    private static int least;
    private static long ways;
    private static int[] first;

    private interface Cost {
        int of(int before, int point);
    }

    private static void due(String call, long got, long want) {
        if (got != want) {
            wrong++;
            if (wrong <= 50) {
                System.out.println("graph " + mask + ": " + call + " answered " + got + ", due is " + want);
            }
        }
    }

    /** The least greatest cost (or sum of costs) of a way, the number of such ways, and the first one. */
    private static void solve(Cost cost, boolean sum) {
        int[] toGo = new int[64];
        for (int set = ALL - 1; set >= 0; set--) {
            toGo[set] = Integer.MAX_VALUE;
            for (int p = 0; p < 6; p++) {
                if ((set >> p & 1) == 0) {
                    toGo[set] = Math.min(toGo[set], with(cost.of(set, p), toGo[set | 1 << p], sum));
                }
            }
        }
        least = toGo[0];
        first = new int[6];
        int set = 0;
        int spent = 0;
        for (int place = 0; place < 6; place++) {
            for (int p = 0; p < 6; p++) {
                if ((set >> p & 1) == 0) {
                    int then = with(spent, cost.of(set, p), sum);
                    if (with(then, toGo[set | 1 << p], sum) == least) {
                        first[place] = p;
                        set |= 1 << p;
                        spent = then;
                        break;
                    }
                }
            }
        }
        ways = countWays(cost, sum, toGo);
    }

    private static int with(int a, int b, boolean sum) {
        return sum ? a + b : Math.max(a, b);
    }

    private static long countWays(Cost cost, boolean sum, int[] toGo) {
        long[] count = new long[64];
        count[ALL] = 1;
        for (int set = ALL - 1; set >= 0; set--) {
            for (int p = 0; p < 6; p++) {
                if ((set >> p & 1) == 0) {
                    int next = set | 1 << p;
                    int c = cost.of(set, p);
                    boolean good = sum ? c + toGo[next] == toGo[set] : c <= least;
                    count[set] += good ? count[next] : 0;
                }
            }
        }
        return count[0];
    }

    private static int cut(int before, int point) {
        int set = before | 1 << point;
        int cut = 0;
        for (int p = 0; p < 6; p++) {
            for (int q = 0; q < 6; q++) {
                if ((set >> p & 1) == 1 && (set >> q & 1) == 0 && line[p][q]) {
                    cut++;
                }
            }
        }
        return cut;
    }

    private static int separated(int before, int point) {
        int set = before | 1 << point;
        int points = 0;
        for (int p = 0; p < 6; p++) {
            boolean open = false;
            for (int q = 0; q < 6; q++) {
                open |= (set >> p & 1) == 1 && (set >> q & 1) == 0 && line[p][q];
            }
            points += open ? 1 : 0;
        }
        return points;
    }

    /** Once the points of a set are out, those still there are neighbours if a way leads from one to the other through the set. */
    private static boolean linked(int out, int from, int to) {
        int seen = 1 << from;
        for (int step = 0; step < 6; step++) {
            for (int p = 0; p < 6; p++) {
                for (int q = 0; q < 6; q++) {
                    boolean through = p == from || (out >> p & 1) == 1;
                    if ((seen >> p & 1) == 1 && through && line[p][q]) {
                        seen |= 1 << q;
                    }
                }
            }
        }
        return (seen >> to & 1) == 1;
    }

    private static int neighbours(int out, int point) {
        int found = 0;
        for (int q = 0; q < 6; q++) {
            if (q != point && (out >> q & 1) == 0 && linked(out, point, q)) {
                found |= 1 << q;
            }
        }
        return found;
    }

    private static int neighbourCount(int out, int point) {
        return Integer.bitCount(neighbours(out, point));
    }

    private static int putIn(int out, int point) {
        int near = neighbours(out, point);
        int missing = 0;
        for (int p = 0; p < 6; p++) {
            for (int q = p + 1; q < 6; q++) {
                if ((near >> p & 1) == 1 && (near >> q & 1) == 1 && !linked(out, p, q)) {
                    missing++;
                }
            }
        }
        return missing;
    }

    /** The stretch is at most k if the points can be set one by one with no line over more than k places. */
    private static int leastStretch() {
        for (int k = 0; k < 5; k++) {
            if (canSet(k, new int[6], 0, 0)) {
                return k;
            }
        }
        return 5;
    }

    private static boolean canSet(int k, int[] points, int count, int set) {
        if (count == 6) {
            return true;
        }
        for (int p = 0; p < 6; p++) {
            boolean fits = (set >> p & 1) == 0;
            for (int i = 0; fits && i < count - k; i++) {
                fits = !line[points[i]][p];
            }
            points[count] = p;
            if (fits && canSet(k, points, count + 1, set | 1 << p)) {
                return true;
            }
        }
        return false;
    }

    private static int greatestClique() {
        int greatest = 0;
        for (int set = 0; set <= ALL; set++) {
            boolean good = true;
            for (int p = 0; p < 6; p++) {
                for (int q = p + 1; q < 6; q++) {
                    good &= (set >> p & 1) == 0 || (set >> q & 1) == 0 || line[p][q];
                }
            }
            greatest = good ? Math.max(greatest, Integer.bitCount(set)) : greatest;
        }
        return greatest;
    }

    private static LayoutWidths build() {
        line = new boolean[6][6];
        LayoutWidths x = new LayoutWidths();
        for (int p = 0, bit = 0; p < 6; p++) {
            for (int q = p + 1; q < 6; q++, bit++) {
                if ((mask >> bit & 1) == 1) {
                    line[p][q] = true;
                    line[q][p] = true;
                    x.line(p, q);
                }
            }
        }
        return x;
    }

    private static void checkRow(LayoutWidths x) {
        solve(EveryGraphTest::cut, false);
        due("cutWidth()", x.cutWidth(), least);
        due("cutOrders()", x.cutOrders(), ways);
        solve(EveryGraphTest::separated, false);
        due("separation()", x.separation(), least);
        due("stretch()", x.stretch(), leastStretch());
        // A line adds one to the cut at each place it goes over, so the length is the sum of the cuts.
        solve(EveryGraphTest::cut, true);
        due("length()", x.length(), least);
        due("lengthOrders()", x.lengthOrders(), ways);
        for (int i = 0; i < 6; i++) {
            due("lengthOrder(" + i + ")", x.lengthOrder(i), first[i]);
        }
    }

    private static int checkApart(LayoutWidths x) {
        solve(EveryGraphTest::putIn, true);
        due("fill()", x.fill(), least);
        due("fillOrders()", x.fillOrders(), ways);
        due("whole()", x.whole() ? 1 : 0, least == 0 ? 1 : 0);
        solve(EveryGraphTest::neighbourCount, false);
        due("width()", x.width(), least);
        for (int i = 0; i < 6; i++) {
            due("widthOrder(" + i + ")", x.widthOrder(i), first[i]);
        }
        return least;
    }

    /** The widths of all graphs are known by now, that of the graph with one line more among them. */
    private static void checkGrowth(LayoutWidths x, int[] widths) {
        for (int p = 0, bit = 0; p < 6; p++) {
            for (int q = p + 1; q < 6; q++, bit++) {
                int want = widths[mask | 1 << bit] - widths[mask];
                due("growth(" + p + ", " + q + ")", x.growth(p, q), want);
                // Each growth costs two surveys, so the other way round is asked on every seventh graph alone.
                if (mask % 7 == 0) {
                    due("growth(" + q + ", " + p + ")", x.growth(q, p), want);
                }
            }
        }
    }

    public static void main(String[] args) {
        int[] widths = new int[1 << 15];
        for (mask = 0; mask < 1 << 15; mask++) {
            LayoutWidths x = build();
            due("lines()", x.lines(), Integer.bitCount(mask));
            checkRow(x);
            widths[mask] = checkApart(x);
            due("clique()", x.clique(), greatestClique());
            due("clear()", x.clear(), Integer.bitCount(mask));
        }
        for (mask = 0; mask < 1 << 15; mask++) {
            LayoutWidths x = build();
            checkGrowth(x, widths);
            due("lines() after growth", x.lines(), Integer.bitCount(mask));
        }
        System.out.println(wrong == 0 ? "all graphs answer as due, widths up to " + Arrays.stream(widths).max().getAsInt()
            : wrong + " answers are not as due");
        if (wrong != 0) {
            System.exit(1);
        }
    }
}
