/**
 * Graphs of six points laid out in a row or taken apart point by point: how narrow that can be done.
 *
 * There are only 720 orders, so every answer about orders is found by looking at each of them.
 */
public final class LayoutWidths {
    public static final int BAD_ARG = -1;
    public static final int NONE = -4;

    private static final int POINTS = 6;
    private static final int ALL_POINTS = (1 << POINTS) - 1;
    private static final int ORDERS = 720;

    /** Above every measure of an order: the greatest is the length 35 of the graph with all lines. */
    private static final int ABOVE_ALL = 1000;

    private static final int CUT = 0;
    private static final int SEPARATION = 1;
    private static final int STRETCH = 2;
    private static final int LENGTH = 3;
    private static final int WIDTH = 4;
    private static final int FILL = 5;

    /** For each point its neighbours, point q as the bit 1 << q; always the same from both ends. */
    private final int[] near = new int[POINTS];

    /** The order being looked at. */
    private final int[] order = new int[POINTS];

    /** The neighbours still there while the points are taken out: the graph itself has to stay. */
    private final int[] rest = new int[POINTS];

    /** What the last survey found: the least measure, how many orders have it, and the first of them. */
    private int least = 0;
    private int leastOrders = 0;
    private final int[] firstOrder = new int[POINTS];

    public LayoutWidths() {
    }

    public int line(int p, int q) {
        if (!isPair(p, q)) {
            return BAD_ARG;
        }
        turnLine(p, q);
        return isJoined(p, q) ? 1 : 0;
    }

    public int clear() {
        int before = countLines();
        for (int p = 0; p < POINTS; p++) {
            near[p] = 0;
        }
        return before;
    }

    public int lines() {
        return countLines();
    }

    public int cutWidth() {
        survey(CUT);
        return least;
    }

    public int separation() {
        survey(SEPARATION);
        return least;
    }

    public int stretch() {
        survey(STRETCH);
        return least;
    }

    public int length() {
        survey(LENGTH);
        return least;
    }

    public int width() {
        survey(WIDTH);
        return least;
    }

    public int fill() {
        survey(FILL);
        return least;
    }

    public int cutOrders() {
        survey(CUT);
        return leastOrders;
    }

    public int lengthOrders() {
        survey(LENGTH);
        return leastOrders;
    }

    public int fillOrders() {
        survey(FILL);
        return leastOrders;
    }

    public int lengthOrder(int i) {
        if (!isInRange(i)) {
            return NONE;
        }
        survey(LENGTH);
        return firstOrder[i];
    }

    public int widthOrder(int i) {
        if (!isInRange(i)) {
            return NONE;
        }
        survey(WIDTH);
        return firstOrder[i];
    }

    public boolean whole() {
        survey(FILL);
        return least == 0;
    }

    public int growth(int p, int q) {
        if (!isPair(p, q)) {
            return BAD_ARG;
        }
        if (isJoined(p, q)) {
            return 0;
        }
        survey(WIDTH);
        int before = least;
        // The line is put in only for the second survey and taken out again: the graph may not change.
        turnLine(p, q);
        survey(WIDTH);
        turnLine(p, q);
        return least - before;
    }

    public int clique() {
        int greatest = 0;
        for (int set = 1; set <= ALL_POINTS; set++) {
            int size = countPoints(set);
            if (size > greatest && isClique(set)) {
                greatest = size;
            }
        }
        return greatest;
    }

    /** Points and places have the same range. */
    private static boolean isInRange(int i) {
        return i >= 0 && i < POINTS;
    }

    private static boolean isPair(int p, int q) {
        return isInRange(p) && isInRange(q) && p != q;
    }

    private static int countPoints(int set) {
        int count = 0;
        for (int p = 0; p < POINTS; p++) {
            count += (set >> p) & 1;
        }
        return count;
    }

    private boolean isJoined(int p, int q) {
        return ((near[p] >> q) & 1) == 1;
    }

    private void turnLine(int p, int q) {
        near[p] ^= 1 << q;
        near[q] ^= 1 << p;
    }

    private int countLines() {
        int ends = 0;
        for (int p = 0; p < POINTS; p++) {
            ends += countPoints(near[p]);
        }
        return ends / 2;
    }

    private boolean isClique(int set) {
        for (int p = 0; p < POINTS; p++) {
            int others = set & ~(1 << p);
            if (others != set && (near[p] & others) != others) {
                return false;
            }
        }
        return true;
    }

    /** Measures all orders, going through them as a dictionary does, so the first one kept is the first of all. */
    private void survey(int measure) {
        least = ABOVE_ALL;
        leastOrders = 0;
        startOrders();
        for (int n = 0; n < ORDERS; n++) {
            int value = measureOrder(measure);
            if (value < least) {
                least = value;
                leastOrders = 0;
                keepOrder();
            }
            if (value == least) {
                leastOrders++;
            }
            nextOrder();
        }
    }

    private void startOrders() {
        for (int i = 0; i < POINTS; i++) {
            order[i] = i;
        }
    }

    private void keepOrder() {
        for (int i = 0; i < POINTS; i++) {
            firstOrder[i] = order[i];
        }
    }

    /** Goes on to the next order of the dictionary; the last one stays as it is. */
    private void nextOrder() {
        int rise = -1;
        for (int i = 0; i < POINTS - 1; i++) {
            if (order[i] < order[i + 1]) {
                rise = i;
            }
        }
        if (rise < 0) {
            return;
        }
        int greater = rise + 1;
        for (int i = rise + 1; i < POINTS; i++) {
            if (order[i] > order[rise]) {
                greater = i;
            }
        }
        swapPlaces(rise, greater);
        // What follows still falls, so turned round it is the first way to go on.
        for (int i = rise + 1, j = POINTS - 1; i < j; i++, j--) {
            swapPlaces(i, j);
        }
    }

    private void swapPlaces(int i, int j) {
        int point = order[i];
        order[i] = order[j];
        order[j] = point;
    }

    private int measureOrder(int measure) {
        switch (measure) {
            case CUT:
                return orderCutWidth();
            case SEPARATION:
                return orderSeparation();
            case STRETCH:
                return orderStretch();
            case LENGTH:
                return orderLength();
            case WIDTH:
                return orderWidth();
            default:
                return orderFill();
        }
    }

    private int orderCutWidth() {
        int greatest = 0;
        int later = ALL_POINTS;
        for (int i = 0; i < POINTS - 1; i++) {
            later &= ~(1 << order[i]);
            int cut = 0;
            for (int j = 0; j <= i; j++) {
                cut += countPoints(near[order[j]] & later);
            }
            if (cut > greatest) {
                greatest = cut;
            }
        }
        return greatest;
    }

    private int orderSeparation() {
        int greatest = 0;
        int later = ALL_POINTS;
        for (int i = 0; i < POINTS; i++) {
            later &= ~(1 << order[i]);
            int points = 0;
            for (int j = 0; j <= i; j++) {
                if ((near[order[j]] & later) != 0) {
                    points++;
                }
            }
            if (points > greatest) {
                greatest = points;
            }
        }
        return greatest;
    }

    private int orderStretch() {
        int greatest = 0;
        for (int i = 0; i < POINTS; i++) {
            for (int j = i + 1; j < POINTS; j++) {
                if (j - i > greatest && isJoined(order[i], order[j])) {
                    greatest = j - i;
                }
            }
        }
        return greatest;
    }

    private int orderLength() {
        int sum = 0;
        for (int i = 0; i < POINTS; i++) {
            for (int j = i + 1; j < POINTS; j++) {
                if (isJoined(order[i], order[j])) {
                    sum += j - i;
                }
            }
        }
        return sum;
    }

    private int orderWidth() {
        int greatest = 0;
        startTakingApart();
        for (int i = 0; i < POINTS; i++) {
            int neighbours = countPoints(rest[order[i]]);
            if (neighbours > greatest) {
                greatest = neighbours;
            }
            takeOut(order[i]);
        }
        return greatest;
    }

    private int orderFill() {
        int putIn = 0;
        startTakingApart();
        for (int i = 0; i < POINTS; i++) {
            putIn += takeOut(order[i]);
        }
        return putIn;
    }

    private void startTakingApart() {
        for (int p = 0; p < POINTS; p++) {
            rest[p] = near[p];
        }
    }

    /** Answers how many lines were put in between the neighbours of the point. */
    private int takeOut(int point) {
        int neighbours = rest[point];
        int newEnds = 0;
        for (int p = 0; p < POINTS; p++) {
            if (((neighbours >> p) & 1) == 1) {
                int others = neighbours & ~(1 << p);
                newEnds += countPoints(others & ~rest[p]);
                rest[p] = (rest[p] | others) & ~(1 << point);
            }
        }
        rest[point] = 0;
        return newEnds / 2;
    }
}
