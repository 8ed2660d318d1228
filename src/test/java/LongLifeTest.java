import java.util.ArrayList;
import java.util.Arrays;
import java.util.HashMap;
import java.util.List;
import java.util.Map;

/**
 * "An object is used for at most 512 calls after it has been made": all 512 of them answer as due, whatever the calls
 * before them were. The due answers come from a model that follows the document's words order by order.
 */
public final class LongLifeTest {
    private static final int LIFE = 512;
    private static final int BAD = -1;
    private static final int NO = -4;
    private static int wrong = 0;

    private static void due(String call, int number, int got, int want) {
        if (got != want) {
            wrong++;
            if (wrong <= 50) {
                System.out.println("call " + number + ", " + call + ", answered " + got + ", due is " + want);
            }
        }
    }

    // ---- the model: a table of lines, and every order there is

    private static final List<int[]> ORDERS = new ArrayList<>();

    private static void fillOrders(int[] order, int count) {
        if (count == 6) {
            ORDERS.add(order.clone());
            return;
        }
        for (int p = 0; p < 6; p++) {
            boolean free = true;
            for (int i = 0; i < count; i++) {
                free &= order[i] != p;
            }
            if (free) {
                order[count] = p;
                fillOrders(order, count + 1);
            }
        }
    }

    private interface Measure {
        int of(boolean[][] line, int[] order);
    }

    private static int cutWidth(boolean[][] line, int[] order) {
        int greatest = 0;
        for (int i = 0; i <= 4; i++) {
            int cut = 0;
            for (int a = 0; a <= i; a++) {
                for (int b = i + 1; b <= 5; b++) {
                    cut += line[order[a]][order[b]] ? 1 : 0;
                }
            }
            greatest = Math.max(greatest, cut);
        }
        return greatest;
    }

    private static int separationWidth(boolean[][] line, int[] order) {
        int greatest = 0;
        for (int i = 0; i <= 5; i++) {
            int points = 0;
            for (int a = 0; a <= i; a++) {
                boolean joined = false;
                for (int b = i + 1; b <= 5; b++) {
                    joined |= line[order[a]][order[b]];
                }
                points += joined ? 1 : 0;
            }
            greatest = Math.max(greatest, points);
        }
        return greatest;
    }

    private static int stretch(boolean[][] line, int[] order) {
        int greatest = 0;
        for (int a = 0; a <= 5; a++) {
            for (int b = a + 1; b <= 5; b++) {
                greatest = line[order[a]][order[b]] ? Math.max(greatest, b - a) : greatest;
            }
        }
        return greatest;
    }

    private static int length(boolean[][] line, int[] order) {
        int sum = 0;
        for (int a = 0; a <= 5; a++) {
            for (int b = a + 1; b <= 5; b++) {
                sum += line[order[a]][order[b]] ? b - a : 0;
            }
        }
        return sum;
    }

    private static int width(boolean[][] line, int[] order) {
        return takeApart(line, order)[0];
    }

    private static int fill(boolean[][] line, int[] order) {
        return takeApart(line, order)[1];
    }

    private static int[] takeApart(boolean[][] line, int[] order) {
        boolean[][] left = new boolean[6][];
        for (int p = 0; p < 6; p++) {
            left[p] = line[p].clone();
        }
        int width = 0;
        int fill = 0;
        for (int point : order) {
            int neighbours = 0;
            for (int p = 0; p < 6; p++) {
                neighbours += left[point][p] ? 1 : 0;
                for (int q = p + 1; q < 6; q++) {
                    if (left[point][p] && left[point][q] && !left[p][q]) {
                        left[p][q] = true;
                        left[q][p] = true;
                        fill++;
                    }
                }
            }
            for (int p = 0; p < 6; p++) {
                left[point][p] = false;
                left[p][point] = false;
            }
            width = Math.max(width, neighbours);
        }
        return new int[] {width, fill};
    }

    private static int least(Measure measure, boolean[][] line) {
        int least = Integer.MAX_VALUE;
        for (int[] order : ORDERS) {
            least = Math.min(least, measure.of(line, order));
        }
        return least;
    }

    private static int ordersWithLeast(Measure measure, boolean[][] line) {
        int least = least(measure, line);
        int count = 0;
        for (int[] order : ORDERS) {
            count += measure.of(line, order) == least ? 1 : 0;
        }
        return count;
    }

    private static int firstWithLeast(Measure measure, boolean[][] line, int place) {
        if (place < 0 || place > 5) {
            return NO;
        }
        int least = least(measure, line);
        int[] first = null;
        for (int[] order : ORDERS) {
            if (measure.of(line, order) == least && (first == null || Arrays.compare(order, first) < 0)) {
                first = order;
            }
        }
        return first[place];
    }

    private static boolean refused(int p, int q) {
        return p < 0 || p > 5 || q < 0 || q > 5 || p == q;
    }

    private static int turn(boolean[][] line, int p, int q) {
        if (refused(p, q)) {
            return BAD;
        }
        line[p][q] = !line[p][q];
        line[q][p] = line[p][q];
        return line[p][q] ? 1 : 0;
    }

    private static int count(boolean[][] line) {
        int count = 0;
        for (int p = 0; p < 6; p++) {
            for (int q = 0; q < p; q++) {
                count += line[p][q] ? 1 : 0;
            }
        }
        return count;
    }

    private static int clear(boolean[][] line) {
        int count = count(line);
        for (boolean[] row : line) {
            Arrays.fill(row, false);
        }
        return count;
    }

    private static int growth(boolean[][] line, int p, int q) {
        if (refused(p, q)) {
            return BAD;
        }
        if (line[p][q]) {
            return 0;
        }
        int before = least(LongLifeTest::width, line);
        turn(line, p, q);
        int after = least(LongLifeTest::width, line);
        turn(line, p, q);
        return after - before;
    }

    private static int clique(boolean[][] line) {
        int greatest = 0;
        for (int[] order : ORDERS) {
            int size = 0;
            boolean all = true;
            while (size < 6 && all) {
                for (int i = 0; i < size; i++) {
                    all &= line[order[i]][order[size]];
                }
                size += all ? 1 : 0;
            }
            greatest = Math.max(greatest, size);
        }
        return greatest;
    }

    // ---- a call of each kind, on the object and on the model

    private static final String[] KINDS = {"line", "clear", "lines", "cutWidth", "separation", "stretch", "length",
        "width", "fill", "cutOrders", "lengthOrders", "fillOrders", "lengthOrder", "widthOrder", "whole", "growth", "clique"};

    private static int ask(LayoutWidths x, String kind, int p, int q) {
        switch (kind) {
            case "line": return x.line(p, q);
            case "clear": return x.clear();
            case "lines": return x.lines();
            case "cutWidth": return x.cutWidth();
            case "separation": return x.separation();
            case "stretch": return x.stretch();
            case "length": return x.length();
            case "width": return x.width();
            case "fill": return x.fill();
            case "cutOrders": return x.cutOrders();
            case "lengthOrders": return x.lengthOrders();
            case "fillOrders": return x.fillOrders();
            case "lengthOrder": return x.lengthOrder(p);
            case "widthOrder": return x.widthOrder(p);
            case "whole": return x.whole() ? 1 : 0;
            case "growth": return x.growth(p, q);
            case "clique": return x.clique();
            default: throw new IllegalArgumentException(kind);
        }
    }

    private static final Map<String, Integer> known = new HashMap<>();

    private static int model(boolean[][] line, String kind, int p, int q) {
        if (kind.equals("line")) {
            return turn(line, p, q);
        }
        if (kind.equals("clear")) {
            return clear(line);
        }
        // The same question on the same graph comes up hundreds of times.
        String question = Arrays.deepToString(line) + kind + p + "," + q;
        return known.computeIfAbsent(question, none -> modelAnswer(line, kind, p, q));
    }

    private static int modelAnswer(boolean[][] line, String kind, int p, int q) {
        switch (kind) {
            case "lines": return count(line);
            case "cutWidth": return least(LongLifeTest::cutWidth, line);
            case "separation": return least(LongLifeTest::separationWidth, line);
            case "stretch": return least(LongLifeTest::stretch, line);
            case "length": return least(LongLifeTest::length, line);
            case "width": return least(LongLifeTest::width, line);
            case "fill": return least(LongLifeTest::fill, line);
            case "cutOrders": return ordersWithLeast(LongLifeTest::cutWidth, line);
            case "lengthOrders": return ordersWithLeast(LongLifeTest::length, line);
            case "fillOrders": return ordersWithLeast(LongLifeTest::fill, line);
            case "lengthOrder": return firstWithLeast(LongLifeTest::length, line, p);
            case "widthOrder": return firstWithLeast(LongLifeTest::width, line, p);
            case "whole": return least(LongLifeTest::fill, line) == 0 ? 1 : 0;
            case "growth": return growth(line, p, q);
            case "clique": return clique(line);
            default: throw new IllegalArgumentException(kind);
        }
    }

    private static void call(LayoutWidths x, boolean[][] line, int number, String kind, int p, int q) {
        String told = kind + "(" + p + ", " + q + ")";
        try {
            due(told, number, ask(x, kind, p, q), model(line, kind, p, q));
        } catch (RuntimeException thrown) {
            wrong++;
            System.out.println("call " + number + ", " + told + ", threw " + thrown);
        }
    }

    // ---- lives

    private static final int[] ARGUMENTS = {0, 1, 2, 3, 4, 5, 0, 1, 2, 3, 4, 5, -1, 6, Integer.MIN_VALUE, Integer.MAX_VALUE};
    private static long state;

    /** Numbers that look mixed but are the same in every run. */
    private static int pick(int bound) {
        state = state * 6364136223846793005L + 1442695040888963407L;
        return (int) ((state >>> 33) % bound);
    }

    /** 511 calls of all kinds, many of them line so that the graph moves, and then the last one. */
    private static void mixedLife(int seed, String last) {
        state = seed;
        LayoutWidths x = new LayoutWidths();
        boolean[][] line = new boolean[6][6];
        for (int number = 1; number <= LIFE; number++) {
            String kind = pick(3) == 0 ? "line" : KINDS[pick(KINDS.length)];
            // Cleared as often as anything else, the graph would never have many lines.
            if (kind.equals("clear") && pick(4) != 0) {
                kind = "line";
            }
            int p = ARGUMENTS[pick(ARGUMENTS.length)];
            int q = ARGUMENTS[pick(ARGUMENTS.length)];
            call(x, line, number, number == LIFE ? last : kind, p, q);
        }
    }

    /** Five lines, then the same call again and again, and another one as the 512th. */
    private static void evenLife(String kind, int p, int q, String last) {
        LayoutWidths x = new LayoutWidths();
        boolean[][] line = new boolean[6][6];
        int[][] lines = {{0, 5}, {5, 3}, {3, 1}, {1, 0}, {1, 2}};
        int number = 0;
        for (int[] ends : lines) {
            call(x, line, ++number, "line", ends[0], ends[1]);
        }
        while (number < LIFE - 1) {
            call(x, line, ++number, kind, p, q);
        }
        call(x, line, LIFE, last, 2, 4);
    }

    /** The 512th call on the graph with all lines, after as many calls that were refused as fit before it. */
    private static void refusedLife(String last) {
        LayoutWidths x = new LayoutWidths();
        boolean[][] line = new boolean[6][6];
        int number = 0;
        for (int p = 0; p < 6; p++) {
            for (int q = p + 1; q < 6; q++) {
                call(x, line, ++number, "line", p, q);
            }
        }
        String[] kinds = {"line", "growth", "lengthOrder", "widthOrder"};
        int[] outside = {-1, 6, Integer.MIN_VALUE, Integer.MAX_VALUE};
        while (number < LIFE - 1) {
            int turn = number++;
            call(x, line, number, kinds[turn % 4], outside[turn / 4 % 4], outside[turn / 16 % 4]);
        }
        call(x, line, LIFE, last, 0, 5);
    }

    public static void main(String[] args) {
        fillOrders(new int[6], 0);
        for (int k = 0; k < KINDS.length; k++) {
            mixedLife(2 * k + 1, KINDS[k]);
            mixedLife(2 * k + 2, KINDS[k]);
            refusedLife(KINDS[k]);
            for (String kind : KINDS) {
                evenLife(kind, 2, 4, KINDS[k]);
            }
            evenLife("line", 6, 0, KINDS[k]);
            evenLife("growth", 3, 3, KINDS[k]);
            evenLife("lengthOrder", -1, 0, KINDS[k]);
            evenLife("widthOrder", 6, 0, KINDS[k]);
        }
        System.out.println(wrong == 0 ? "all 512 calls of every life answer as due" : wrong + " answers are not as due");
        if (wrong != 0) {
            System.exit(1);
        }
    }
}
