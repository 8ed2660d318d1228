/** Promise by promise: well-known graphs, the document's edges, and wrong arguments. */
public final class PromisesTest {
    private static final int[] OUTSIDE = {-1, 6, 7, 31, 32, 33, -32, Integer.MAX_VALUE, Integer.MIN_VALUE};
    private static final int BAD = -1;
    private static final int NO = -4;
    private static int wrong = 0;

    private static void due(String call, long got, long want) {
        if (got != want) {
            wrong++;
            System.out.println(call + " answered " + got + ", due is " + want);
        }
    }

    private static void due(String call, boolean got, boolean want) {
        due(call, got ? 1L : 0L, want ? 1L : 0L);
    }

    /** A new object with these lines, given as pairs of points: graph(0, 1, 1, 2) is a path of three points. */
    private static LayoutWidths graph(int... ends) {
        LayoutWidths x = new LayoutWidths();
        for (int k = 0; k < ends.length; k += 2) {
            due("line(" + ends[k] + ", " + ends[k + 1] + ") of a new pair", x.line(ends[k], ends[k + 1]), 1);
        }
        return x;
    }

    private static LayoutWidths path() {
        return graph(0, 1, 1, 2, 2, 3, 3, 4, 4, 5);
    }

    private static LayoutWidths ring() {
        return graph(0, 1, 1, 2, 2, 3, 3, 4, 4, 5, 5, 0);
    }

    private static LayoutWidths star(int middle) {
        LayoutWidths x = new LayoutWidths();
        for (int p = 0; p < 6; p++) {
            if (p != middle) {
                x.line(p, middle);
            }
        }
        return x;
    }

    private static LayoutWidths full() {
        LayoutWidths x = new LayoutWidths();
        for (int p = 0; p < 6; p++) {
            for (int q = p + 1; q < 6; q++) {
                x.line(p, q);
            }
        }
        return x;
    }

    /** Three against three: 0, 1, 2 each with 3, 4, 5. */
    private static LayoutWidths threeByThree() {
        return graph(0, 3, 0, 4, 0, 5, 1, 3, 1, 4, 1, 5, 2, 3, 2, 4, 2, 5);
    }

    /** The lines 0-5 and 1-4 alone, so that the least lengths are not had by the first order. */
    private static LayoutWidths twoLines() {
        return graph(0, 5, 1, 4);
    }

    /** A triangle with a tail: its least width can be had with a line put in, its least fill can't. */
    private static LayoutWidths tailed() {
        return graph(0, 1, 0, 2, 1, 2, 0, 3);
    }

    /** A triangle with a further triangle on each side: wider in a row than taken apart. */
    private static LayoutWidths sun() {
        return graph(0, 1, 1, 2, 2, 0, 3, 0, 3, 1, 4, 1, 4, 2, 5, 2, 5, 0);
    }

    public static void main(String[] args) {
        promise1();
        promise2();
        promise2Refusals();
        promise3();
        promise4();
        promise5();
        promise6();
        promise7();
        promise8();
        promise9();
        promise10();
        promise11();
        promise12();
        promise13();
        promise14();
        promise15();
        promise16();
        promise17();
        promise18();
        questionsChangeNothing();
        objectsStandAlone();
        System.out.println(wrong == 0 ? "all promises hold" : wrong + " answers are not as due");
        if (wrong != 0) {
            System.exit(1);
        }
    }

    private static void promise1() {
        due("new: lines()", new LayoutWidths().lines(), 0);
        due("new: clear()", new LayoutWidths().clear(), 0);
        due("new: length()", new LayoutWidths().length(), 0);
        for (int p = 0; p < 6; p++) {
            for (int q = 0; q < 6; q++) {
                if (p != q) {
                    due("new: line(" + p + ", " + q + ")", new LayoutWidths().line(p, q), 1);
                }
            }
        }
    }

    private static void promise2() {
        for (int p = 0; p < 6; p++) {
            for (int q = 0; q < 6; q++) {
                if (p != q) {
                    LayoutWidths x = new LayoutWidths();
                    due("line put in", x.line(p, q), 1);
                    due("lines() after it", x.lines(), 1);
                    due("line taken out from the other end", x.line(q, p), 0);
                    due("lines() after that", x.lines(), 0);
                    due("line put in again", x.line(q, p), 1);
                    due("line taken out again", x.line(q, p), 0);
                }
            }
        }
    }

    private static void promise2Refusals() {
        LayoutWidths x = ring();
        for (int out : OUTSIDE) {
            for (int p = 0; p < 6; p++) {
                due("line(" + p + ", " + out + ")", x.line(p, out), BAD);
                due("line(" + out + ", " + p + ")", x.line(out, p), BAD);
            }
            due("line(" + out + ", " + out + ")", x.line(out, out), BAD);
        }
        for (int p = 0; p < 6; p++) {
            due("line(" + p + ", " + p + ")", x.line(p, p), BAD);
        }
        due("lines() after refusals", x.lines(), 6);
        due("length() after refusals", x.length(), 10);
        due("a line after refusals", x.line(0, 1), 0);
    }

    private static void promise3() {
        LayoutWidths x = full();
        due("clear() of all lines", x.clear(), 15);
        due("lines() after clear", x.lines(), 0);
        due("clear() again", x.clear(), 0);
        due("width() after clear", x.width(), 0);
        due("clique() after clear", x.clique(), 1);
        due("line(5, 4) after clear", x.line(5, 4), 1);
        due("clear() of one line", x.clear(), 1);
    }

    private static void promise4() {
        LayoutWidths x = new LayoutWidths();
        int count = 0;
        for (int p = 0; p < 6; p++) {
            for (int q = p + 1; q < 6; q++) {
                x.line(q, p);
                due("lines() going up", x.lines(), ++count);
            }
        }
        for (int p = 0; p < 6; p++) {
            for (int q = p + 1; q < 6; q++) {
                x.line(p, q);
                due("lines() going down", x.lines(), --count);
            }
        }
    }

    private static void promise5() {
        due("no line: cutWidth()", new LayoutWidths().cutWidth(), 0);
        due("two lines: cutWidth()", twoLines().cutWidth(), 1);
        due("path: cutWidth()", path().cutWidth(), 1);
        due("ring: cutWidth()", ring().cutWidth(), 2);
        due("star: cutWidth()", star(4).cutWidth(), 3);
        due("three by three: cutWidth()", threeByThree().cutWidth(), 5);
        due("full: cutWidth()", full().cutWidth(), 9);
    }

    private static void promise6() {
        due("no line: separation()", new LayoutWidths().separation(), 0);
        due("two lines: separation()", twoLines().separation(), 1);
        due("path: separation()", path().separation(), 1);
        due("ring: separation()", ring().separation(), 2);
        due("star: separation()", star(2).separation(), 1);
        due("three by three: separation()", threeByThree().separation(), 3);
        due("sun: separation()", sun().separation(), 3);
        due("full: separation()", full().separation(), 5);
    }

    private static void promise7() {
        due("no line: stretch()", new LayoutWidths().stretch(), 0);
        due("two lines: stretch()", twoLines().stretch(), 1);
        due("path: stretch()", path().stretch(), 1);
        due("ring: stretch()", ring().stretch(), 2);
        due("star: stretch()", star(5).stretch(), 3);
        due("three by three: stretch()", threeByThree().stretch(), 4);
        due("full: stretch()", full().stretch(), 5);
    }

    private static void promise8() {
        due("no line: length()", new LayoutWidths().length(), 0);
        due("two lines: length()", twoLines().length(), 2);
        due("path: length()", path().length(), 5);
        due("ring: length()", ring().length(), 10);
        due("star: length()", star(1).length(), 9);
        due("three by three: length()", threeByThree().length(), 19);
        due("full: length()", full().length(), 35);
    }

    private static void promise9() {
        due("no line: width()", new LayoutWidths().width(), 0);
        due("path: width()", path().width(), 1);
        due("star: width()", star(0).width(), 1);
        due("ring: width()", ring().width(), 2);
        due("two triangles: width()", graph(0, 1, 1, 2, 2, 0, 3, 4, 4, 5, 5, 3).width(), 2);
        due("three by three: width()", threeByThree().width(), 3);
        due("sun: width()", sun().width(), 2);
        due("full: width()", full().width(), 5);
    }

    private static void promise10() {
        due("no line: fill()", new LayoutWidths().fill(), 0);
        due("path: fill()", path().fill(), 0);
        due("full: fill()", full().fill(), 0);
        due("ring of four: fill()", graph(0, 1, 1, 2, 2, 3, 3, 0).fill(), 1);
        due("ring of five: fill()", graph(0, 1, 1, 2, 2, 3, 3, 4, 4, 0).fill(), 2);
        due("ring of six: fill()", ring().fill(), 3);
        due("three by three: fill()", threeByThree().fill(), 3);
    }

    private static void promise11() {
        due("no line: cutOrders()", new LayoutWidths().cutOrders(), 720);
        due("one line: cutOrders()", graph(2, 5).cutOrders(), 720);
        due("path: cutOrders()", path().cutOrders(), 2);
        due("ring: cutOrders()", ring().cutOrders(), 96);
        due("star: cutOrders()", star(3).cutOrders(), 240);
        due("full: cutOrders()", full().cutOrders(), 720);
    }

    private static void promise12() {
        due("no line: lengthOrders()", new LayoutWidths().lengthOrders(), 720);
        due("one line: lengthOrders()", graph(2, 5).lengthOrders(), 240);
        due("two lines: lengthOrders()", twoLines().lengthOrders(), 96);
        due("path: lengthOrders()", path().lengthOrders(), 2);
        due("star: lengthOrders()", star(3).lengthOrders(), 240);
        // 3, 0 and then 1 and 2, read from either end, with 4 and 5 outside: more orders have the least stretch.
        due("triangle with a tail: lengthOrders()", tailed().lengthOrders(), 24);
        due("full: lengthOrders()", full().lengthOrders(), 720);
    }

    private static void promise13() {
        due("no line: fillOrders()", new LayoutWidths().fillOrders(), 720);
        due("path: fillOrders()", path().fillOrders(), 32);
        due("ring: fillOrders()", ring().fillOrders(), 720);
        due("star: fillOrders()", star(3).fillOrders(), 240);
        due("triangle with a tail: fillOrders()", tailed().fillOrders(), 420);
        due("three by three: fillOrders()", threeByThree().fillOrders(), 288);
        due("full: fillOrders()", full().fillOrders(), 720);
    }

    private static void dueLengthOrder(String name, LayoutWidths x, int... points) {
        for (int i = 0; i < 6; i++) {
            due(name + ": lengthOrder(" + i + ")", x.lengthOrder(i), points[i]);
        }
    }

    private static void dueWidthOrder(String name, LayoutWidths x, int... points) {
        for (int i = 0; i < 6; i++) {
            due(name + ": widthOrder(" + i + ")", x.widthOrder(i), points[i]);
        }
    }

    private static void promise14() {
        dueLengthOrder("no line", new LayoutWidths(), 0, 1, 2, 3, 4, 5);
        dueLengthOrder("two lines", twoLines(), 0, 5, 1, 4, 2, 3);
        dueLengthOrder("path", path(), 0, 1, 2, 3, 4, 5);
        dueLengthOrder("path read from its lesser end", graph(5, 3, 3, 1, 1, 0, 0, 2, 2, 4), 4, 2, 0, 1, 3, 5);
        dueLengthOrder("star", star(0), 1, 2, 0, 3, 4, 5);
        for (int i : OUTSIDE) {
            due("lengthOrder(" + i + ")", path().lengthOrder(i), NO);
        }
    }

    private static void promise15() {
        dueWidthOrder("no line", new LayoutWidths(), 0, 1, 2, 3, 4, 5);
        dueWidthOrder("ring", ring(), 0, 1, 2, 3, 4, 5);
        // All but one of a star's points have to be out before its middle may go.
        dueWidthOrder("star", star(0), 1, 2, 3, 4, 0, 5);
        dueWidthOrder("triangle with a tail", tailed(), 1, 0, 2, 3, 4, 5);
        dueWidthOrder("path with 0 and 1 inside", graph(5, 1, 1, 0, 0, 2, 2, 3, 3, 4), 4, 3, 2, 0, 1, 5);
        for (int i : OUTSIDE) {
            due("widthOrder(" + i + ")", path().widthOrder(i), NO);
        }
    }

    private static void promise16() {
        due("no line: whole()", new LayoutWidths().whole(), true);
        due("path: whole()", path().whole(), true);
        due("full: whole()", full().whole(), true);
        due("triangle: whole()", graph(0, 1, 1, 2, 2, 0).whole(), true);
        due("ring of four: whole()", graph(0, 1, 1, 2, 2, 3, 3, 0).whole(), false);
        due("ring of four with a line across: whole()", graph(0, 1, 1, 2, 2, 3, 3, 0, 0, 2).whole(), true);
        due("ring: whole()", ring().whole(), false);
    }

    private static void promise17() {
        LayoutWidths x = path();
        due("path: growth(0, 5)", x.growth(0, 5), 1);
        due("path: growth(2, 0)", x.growth(2, 0), 1);
        due("path: growth(0, 1), a line", x.growth(0, 1), 0);
        due("path: growth(1, 0), a line", x.growth(1, 0), 0);
        due("path: lines() after growth", x.lines(), 5);
        due("path: width() after growth", x.width(), 1);
        due("ring: growth(0, 3)", ring().growth(0, 3), 0);
        due("no line: growth(4, 5)", new LayoutWidths().growth(4, 5), 1);
        due("two paths: growth(2, 3)", graph(0, 1, 1, 2, 3, 4, 4, 5).growth(2, 3), 0);
        LayoutWidths y = full();
        due("full: growth(2, 5), a line", y.growth(2, 5), 0);
        y.line(2, 5);
        due("full but one: growth(2, 5)", y.growth(2, 5), 1);
        due("full but one: lines()", y.lines(), 14);
        for (int out : OUTSIDE) {
            for (int p = 0; p < 6; p++) {
                due("growth(" + p + ", " + out + ")", x.growth(p, out), BAD);
                due("growth(" + out + ", " + p + ")", x.growth(out, p), BAD);
            }
            due("growth(" + out + ", " + out + ")", x.growth(out, out), BAD);
        }
        for (int p = 0; p < 6; p++) {
            due("growth(" + p + ", " + p + ")", x.growth(p, p), BAD);
        }
        due("path: lines() after refused growth", x.lines(), 5);
    }

    private static void promise18() {
        due("no line: clique()", new LayoutWidths().clique(), 1);
        due("one line: clique()", graph(4, 5).clique(), 2);
        due("the first line: clique()", graph(0, 1).clique(), 2);
        due("ring: clique()", ring().clique(), 2);
        due("three by three: clique()", threeByThree().clique(), 2);
        due("a late triangle: clique()", graph(3, 4, 4, 5, 5, 3).clique(), 3);
        due("four points: clique()", graph(0, 2, 0, 4, 0, 5, 2, 4, 2, 5, 4, 5).clique(), 4);
        due("full: clique()", full().clique(), 6);
        LayoutWidths x = full();
        x.line(0, 5);
        due("full but one: clique()", x.clique(), 5);
    }

    /** One long life: after every kind of question, told in between one another, the same answers come. */
    private static void questionsChangeNothing() {
        LayoutWidths x = twoLines();
        for (int round = 0; round < 30; round++) {
            due("round: cutWidth()", x.cutWidth(), 1);
            due("round: widthOrder(5)", x.widthOrder(5), 5);
            due("round: lengthOrder(1)", x.lengthOrder(1), 5);
            due("round: separation()", x.separation(), 1);
            due("round: fillOrders()", x.fillOrders(), 720);
            due("round: growth(2, 3)", x.growth(2, 3), 0);
            due("round: lengthOrder(6)", x.lengthOrder(6), NO);
            due("round: line(1, 1)", x.line(1, 1), BAD);
            due("round: whole()", x.whole(), true);
            due("round: clique()", x.clique(), 2);
            due("round: stretch()", x.stretch(), 1);
            due("round: lengthOrders()", x.lengthOrders(), 96);
            due("round: fill()", x.fill(), 0);
            due("round: cutOrders()", x.cutOrders(), 240);
            due("round: lines()", x.lines(), 2);
        }
    }

    private static void objectsStandAlone() {
        LayoutWidths x = path();
        LayoutWidths y = full();
        due("the first of two: lines()", x.lines(), 5);
        due("the second of two: clear()", y.clear(), 15);
        due("the first of two after that: length()", x.length(), 5);
    }
}
