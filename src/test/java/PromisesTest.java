/** Each promise by number: ordinary inputs, the edges that the document names, wrong inputs. Worked out by hand. */
public final class PromisesTest {
    private static final int LOW = Integer.MIN_VALUE, HIGH = Integer.MAX_VALUE;
    private static final Due DUE = new Due();

    private PromisesTest() {
    }

    public static void main(String[] args) {
        promise1();
        promise2();
        promise3();
        promise3Refusals();
        promise4();
        promise5();
        promise6();
        promise7();
        promise8();
        promise9To11();
        promise9To11BehindASmallBox();
        promise12();
        promise13();
        promise13OfBoxes();
        promise14();
        promise15And16();
        promise17();
        DUE.end("PromisesTest");
    }

    private static void due(String call, int got, int want) {
        DUE.is(call, got, want);
    }

    /** All that is told of a CORNER but its REACH. */
    private static void dueCorner(HingeCards x, int k, int p, int q, int u, int v) {
        String name = "corner(" + k + ", ";
        due(name + "0)", x.corner(k, 0), p + 100);
        due(name + "1)", x.corner(k, 1), q + 100);
        due(name + "2)", x.corner(k, 2), u + 1);
        due(name + "3)", x.corner(k, 3), v + 1);
    }

    private static void dueFace(HingeCards x, int f, int along, int p, int q, int length) {
        String name = "face(" + f + ", ";
        due(name + "0)", x.face(f, 0), along);
        due(name + "1)", x.face(f, 1), p + 100);
        due(name + "2)", x.face(f, 2), q + 100);
        due(name + "3)", x.face(f, 3), length);
    }

    private static void dueCounts(HingeCards x, int... want) {
        for (int what = 0; what < want.length; what++) due("count(" + what + ")", x.count(what), want[what]);
    }

    private static void dueAbove(HingeCards x, int step, int across, int face, int upper, int lower) {
        String name = "above(" + step + ", " + across + ", ";
        due(name + "0)", x.above(step, across, 0), face);
        due(name + "1)", x.above(step, across, 1), upper + 100000);
        due(name + "2)", x.above(step, across, 2), lower);
    }

    private static void dueNothingAbove(HingeCards x, int step, int across) {
        for (int what = 0; what <= 2; what++) {
            due("above(" + step + ", " + across + ", " + what + ")", x.above(step, across, what), HingeCards.NONE);
        }
    }

    private static HingeCards withBox(int pages, int a, int b) {
        HingeCards x = new HingeCards();
        x.size(pages);
        x.put(0, a, b);
        return x;
    }

    /** Six BOXES side by side, one unit broad each. */
    private static HingeCards full() {
        HingeCards x = withBox(8, 1, 7);
        for (int i = 1; i <= 5; i++) due("put of a full card", x.put(5 * i - 3, 1, 7 - i), 4 + 2 * i);
        return x;
    }

    /** LONG is 4, four BOXES, and no other can be. */
    private static HingeCards stuck() {
        HingeCards x = withBox(4, 2, 2);
        due("put(0, 1, 1)", x.put(0, 1, 1), 6);
        due("put(2, 1, 1)", x.put(2, 1, 1), 8);
        due("put(4, 1, 1)", x.put(4, 1, 1), 10);
        return x;
    }

    private static void promise1() {
        HingeCards x = new HingeCards();
        dueCounts(x, 0, 2, 1, 8, 0, 17, 0);
        dueCorner(x, 0, 0, 0, 1, 1);
        dueFace(x, 0, 0, 0, 0, 8);
        dueFace(x, 1, 1, 0, 0, 8);
        due("restore(0)", x.restore(0), HingeCards.STATE);
        due("restore(1)", x.restore(1), HingeCards.STATE);
        x.put(0, 1, 1);
        x.image(0);
        dueCounts(new HingeCards(), 0, 2, 1, 8, 0, 17, 0);
    }

    private static void promise2() {
        HingeCards x = new HingeCards();
        due("size(4)", x.size(4), 8);
        due("size(12)", x.size(12), 4);
        due("size(12)", x.size(12), 12);
        for (int v : new int[] {LOW, -1, 0, 3, 13, HIGH}) due("size(" + v + ")", x.size(v), HingeCards.OUTSIDE);
        due("count(3)", x.count(3), 12);
        due("size(5)", x.size(5), 12);
        dueFace(x, 0, 0, 0, 0, 5);
        dueFace(x, 1, 1, 0, 0, 5);
        due("corner(0, 4)", x.corner(0, 4), 5);
        due("corner(0, 5)", x.corner(0, 5), 5);
        due("on(5, 0)", x.on(5, 0), 1);
        due("on(6, 0)", x.on(6, 0), 0);
        due("count(5)", x.count(5), 11);
        due("why(0, 3, 3)", x.why(0, 3, 3), 2);
        due("put(0, 2, 3)", x.put(0, 2, 3), 4);
        due("size(6) with a BOX", x.size(6), HingeCards.STATE);
        due("size(3) with a BOX", x.size(3), HingeCards.OUTSIDE);
        due("count(3)", x.count(3), 5);
        x.off();
        due("size(6)", x.size(6), 5);
        due("why(0, 3, 3)", x.why(0, 3, 3), 0);
    }

    private static void promise3() {
        HingeCards x = new HingeCards();
        due("put(0, 3, 2)", x.put(0, 3, 2), 4);
        dueFace(x, 2, 1, 3, 0, 2);
        dueFace(x, 3, 0, 0, 2, 3);
        dueCorner(x, 1, 3, 0, -1, 1);
        dueCorner(x, 2, 3, 0, 1, 1);
        dueCorner(x, 3, 0, 2, 1, -1);
        dueCorner(x, 4, 0, 2, 1, 1);
        dueCorner(x, 5, 3, 2, -1, -1);
        dueCounts(x, 1, 4, 6, 8, 6, 21);
        // By both signs below 0: Z is the first end of both FACES.
        due("put(5, 2, 1)", x.put(5, 2, 1), 6);
        dueFace(x, 4, 1, 1, 1, 1);
        dueFace(x, 5, 0, 1, 1, 2);
        dueCorner(x, 6, 1, 2, 1, -1);
        dueCorner(x, 7, 1, 2, -1, -1);
        dueCorner(x, 8, 3, 1, -1, 1);
        dueCorner(x, 9, 3, 1, -1, -1);
        dueCorner(x, 10, 1, 1, 1, 1);
        x.off();
        // By u alone below 0.
        due("put(1, 1, 1)", x.put(1, 1, 1), 6);
        dueFace(x, 4, 1, 2, 0, 1);
        dueFace(x, 5, 0, 2, 1, 1);
        dueCorner(x, 6, 2, 0, 1, 1);
        dueCorner(x, 7, 2, 0, -1, 1);
        dueCorner(x, 8, 3, 1, -1, -1);
        dueCorner(x, 9, 3, 1, -1, 1);
        dueCorner(x, 10, 2, 1, 1, -1);
        x.off();
        // By v alone below 0.
        due("put(3, 2, 1)", x.put(3, 2, 1), 6);
        dueFace(x, 4, 1, 2, 1, 1);
        dueFace(x, 5, 0, 0, 1, 2);
        dueCorner(x, 6, 2, 2, -1, -1);
        dueCorner(x, 10, 2, 1, -1, 1);
    }

    private static void promise3Refusals() {
        HingeCards x = new HingeCards();
        for (int k : new int[] {LOW, -1, 1, 31, HIGH}) {
            due("put(" + k + ", 0, 0)", x.put(k, 0, 0), HingeCards.UNKNOWN);
            due("put(" + k + ", 1, 1)", x.put(k, 1, 1), HingeCards.UNKNOWN);
        }
        for (int n : new int[] {LOW, -1, 0, 13, HIGH}) {
            due("put(0, " + n + ", 1)", x.put(0, n, 1), HingeCards.OUTSIDE);
            due("put(0, 1, " + n + ")", x.put(0, 1, n), HingeCards.OUTSIDE);
        }
        due("put(0, 9, 1)", x.put(0, 9, 1), HingeCards.NO);
        due("put(0, 5, 4)", x.put(0, 5, 4), HingeCards.NO);
        dueCounts(x, 0, 2, 1, 8, 0, 17, 0);
        x.put(0, 4, 4);
        due("put(0, 4, 4)", x.put(0, 4, 4), HingeCards.NO);
        dueCounts(x, 1, 4, 6, 8, 16, 24, 0);
        HingeCards y = full();
        dueCounts(y, 6, 14, 31, 8, 27, 44, 0);
        due("put(31, 0, 0)", y.put(31, 0, 0), HingeCards.UNKNOWN);
        due("put(30, 0, 1)", y.put(30, 0, 1), HingeCards.OUTSIDE);
        due("put(0, 12, 12)", y.put(0, 12, 12), HingeCards.FULL);
        due("put(27, 1, 1)", y.put(27, 1, 1), HingeCards.FULL);
        dueCounts(y, 6, 14, 31, 8, 27, 44, 0);
    }

    private static void promise4() {
        HingeCards x = new HingeCards();
        due("off()", x.off(), HingeCards.STATE);
        dueCounts(x, 0, 2, 1, 8, 0, 17, 0);
        x.put(0, 4, 4);
        x.put(1, 2, 3);
        dueCounts(x, 2, 6, 11, 8, 22, 28);
        due("off()", x.off(), 1);
        dueCounts(x, 1, 4, 6, 8, 16, 24);
        due("face(4, 0)", x.face(4, 0), HingeCards.UNKNOWN);
        due("corner(6, 0)", x.corner(6, 0), HingeCards.UNKNOWN);
        // X and Y of the BOX that went still lie on FACES that stay; its other PLACES are free.
        due("on(2, 0)", x.on(2, 0), 1);
        due("on(4, 3)", x.on(4, 3), 1);
        due("on(2, 3)", x.on(2, 3), 0);
        due("corner(1, 5)", x.corner(1, 5), 4);
        due("put(1, 2, 3)", x.put(1, 2, 3), 6);
        due("off()", x.off(), 1);
        due("off()", x.off(), 0);
        due("off()", x.off(), HingeCards.STATE);
        dueCounts(x, 0, 2, 1, 8, 0, 17, 0);
        HingeCards y = full();
        for (int left = 5; left >= 0; left--) due("off()", y.off(), left);
        due("off()", y.off(), HingeCards.STATE);
    }

    private static void promise5() {
        HingeCards x = new HingeCards();
        due("why(1, 0, 0)", x.why(1, 0, 0), HingeCards.UNKNOWN);
        due("why(-1, 1, 1)", x.why(-1, 1, 1), HingeCards.UNKNOWN);
        for (int n : new int[] {LOW, -1, 0, 13, HIGH}) {
            due("why(0, " + n + ", 1)", x.why(0, n, 1), HingeCards.OUTSIDE);
            due("why(0, 1, " + n + ")", x.why(0, 1, n), HingeCards.OUTSIDE);
        }
        due("why(0, 4, 4)", x.why(0, 4, 4), 0);
        due("why(0, 1, 7)", x.why(0, 1, 7), 0);
        due("why(0, 7, 1)", x.why(0, 7, 1), 0);
        due("why(0, 4, 5)", x.why(0, 4, 5), 2);
        due("why(0, 8, 8)", x.why(0, 8, 8), 2);
        due("why(0, 9, 1)", x.why(0, 9, 1), 1);
        due("why(0, 1, 9)", x.why(0, 1, 9), 1);
        due("why(0, 12, 12)", x.why(0, 12, 12), 1);
        x.put(0, 4, 3);
        due("why(0, 3, 2)", x.why(0, 3, 2), 0);
        due("why(0, 4, 1): X on a FACE, and more", x.why(0, 4, 1), 3);
        due("why(0, 3, 3): Z on a FACE", x.why(0, 3, 3), 3);
        due("why(0, 3, 4): crosses along q", x.why(0, 3, 4), 3);
        due("why(0, 5, 2): crosses along p", x.why(0, 5, 2), 3);
        due("why(0, 5, 3): touches the end of a FACE", x.why(0, 5, 3), 3);
        due("why(0, 4, 3)", x.why(0, 4, 3), 3);
        due("why(0, 5, 4): goes around, but sticks out", x.why(0, 5, 4), 2);
        due("why(2, 1, 3): X and Y touch, nothing else", x.why(2, 1, 3), 0);
        due("why(2, 2, 3): sticks out", x.why(2, 2, 3), 2);
        due("why(2, 1, 4)", x.why(2, 1, 4), 1);
        due("why(2, 4, 1)", x.why(2, 4, 1), 2);
        due("why(2, 5, 1)", x.why(2, 5, 1), 1);
        due("why(5, 4, 1): Z on page 1", x.why(5, 4, 1), 3);
        due("why(5, 1, 3): Z on page 0", x.why(5, 1, 3), 3);
        due("why(5, 3, 2)", x.why(5, 3, 2), 0);
        due("why(5, 5, 1)", x.why(5, 5, 1), 1);
        due("why(5, 1, 4)", x.why(5, 1, 4), 1);
        HingeCards y = withBox(12, 2, 2);
        due("why(0, 3, 3): around a BOX", y.why(0, 3, 3), 0);
        HingeCards z = full();
        z.off();
        due("why(22, 1, 2)", z.why(22, 1, 2), 0);
        z.put(22, 1, 1);
        due("why(0, 1, 1) of a full card", z.why(0, 1, 1), 3);
        due("why(27, 1, 1) of a full card", z.why(27, 1, 1), 0);
    }

    private static void promise6() {
        HingeCards x = new HingeCards();
        for (int k : new int[] {LOW, -1, 1, HIGH}) {
            due("corner(" + k + ", 0)", x.corner(k, 0), HingeCards.UNKNOWN);
            due("corner(" + k + ", 9)", x.corner(k, 9), HingeCards.UNKNOWN);
        }
        for (int what : new int[] {LOW, -1, 6, HIGH}) {
            due("corner(0, " + what + ")", x.corner(0, what), HingeCards.OUTSIDE);
        }
        due("corner(0, 4)", x.corner(0, 4), 8);
        due("corner(0, 5)", x.corner(0, 5), 8);
        x.put(0, 3, 2);
        int[][] reach = {{8, 8}, {3, 2}, {5, 2}, {3, 2}, {3, 6}, {3, 2}};
        for (int k = 0; k < reach.length; k++) {
            due("corner(" + k + ", 4)", x.corner(k, 4), reach[k][0]);
            due("corner(" + k + ", 5)", x.corner(k, 5), reach[k][1]);
        }
        due("corner(6, 0)", x.corner(6, 0), HingeCards.UNKNOWN);
        // A second FACE at the end of the first one: REACH goes over both.
        x.put(2, 3, 2);
        due("corner(4, 4)", x.corner(4, 4), 6);
        due("corner(10, 4)", x.corner(10, 4), 6);
        due("corner(10, 5)", x.corner(10, 5), 2);
        x.off();
        due("corner(4, 4)", x.corner(4, 4), 3);
        // A PLACE on a FACE across is no REACH: the middle between PLACES must lie on FACES along.
        x.put(2, 1, 1);
        due("corner(8, 4): along p from (3, 1)", x.corner(8, 4), 1);
        due("corner(1, 5)", x.corner(1, 5), 2);
        HingeCards y = new HingeCards();
        y.size(12);
        due("corner(0, 4)", y.corner(0, 4), 12);
        due("corner(0, 5)", y.corner(0, 5), 12);
    }

    private static void promise7() {
        HingeCards x = withBox(8, 3, 2);
        for (int f : new int[] {LOW, -1, 4, HIGH}) {
            due("face(" + f + ", 0)", x.face(f, 0), HingeCards.UNKNOWN);
            due("face(" + f + ", 9)", x.face(f, 9), HingeCards.UNKNOWN);
        }
        for (int what : new int[] {LOW, -1, 4, HIGH}) due("face(3, " + what + ")", x.face(3, what), HingeCards.OUTSIDE);
        dueFace(x, 0, 0, 0, 0, 8);
        dueFace(x, 1, 1, 0, 0, 8);
        dueFace(x, 2, 1, 3, 0, 2);
        dueFace(x, 3, 0, 0, 2, 3);
        x.put(4, 2, 3);
        dueFace(x, 4, 1, 2, 2, 3);
        dueFace(x, 5, 0, 0, 5, 2);
    }

    private static void promise8() {
        HingeCards x = withBox(12, 6, 4);
        int[] wrong = {LOW, -13, 13, HIGH};
        for (int n : wrong) {
            due("on(" + n + ", 0)", x.on(n, 0), HingeCards.OUTSIDE);
            due("on(0, " + n + ")", x.on(0, n), HingeCards.OUTSIDE);
        }
        due("on(-12, -12)", x.on(-12, -12), 0);
        due("on(12, 12)", x.on(12, 12), 0);
        due("on(12, 0)", x.on(12, 0), 1);
        due("on(0, 12)", x.on(0, 12), 1);
        due("on(-1, 0)", x.on(-1, 0), 0);
        due("on(0, 0)", x.on(0, 0), 2);
        due("on(6, 0)", x.on(6, 0), 2);
        due("on(6, 3)", x.on(6, 3), 1);
        due("on(6, 4)", x.on(6, 4), 2);
        due("on(6, 5)", x.on(6, 5), 0);
        due("on(7, 4)", x.on(7, 4), 0);
        due("on(3, 4)", x.on(3, 4), 1);
        due("on(3, 3)", x.on(3, 3), 0);
        x.put(2, 2, 4);
        due("on(6, 4) with three FACES", x.on(6, 4), 3);
    }

    private static void promise9To11() {
        HingeCards x = new HingeCards();
        int[] wrong = {LOW, -1, 4, HIGH};
        for (int what : wrong) due("greatest(" + what + ")", x.greatest(what), HingeCards.OUTSIDE);
        x.size(5);
        due("ways()", x.ways(), 10);
        // 2 by 3 and 3 by 2: the least a.
        dueGreatest(x, 6, 0, 2, 3);
        // 2 by 3 and 1 by 2 in it.
        due("two()", x.two(), 8);
        dueCounts(x, 0, 2, 1, 5, 0, 11, 0);
        x.size(4);
        due("ways()", x.ways(), 6);
        dueGreatest(x, 4, 0, 2, 2);
        due("two()", x.two(), 5);
        x.put(0, 2, 2);
        due("ways()", x.ways(), 6);
        // All six are 1 by 1: the least CORNER.
        dueGreatest(x, 1, 0, 1, 1);
        due("two()", x.two(), 2);
        dueCounts(x, 1, 4, 6, 4, 4, 12, 0);
        x.put(0, 1, 1);
        // CORNER 0 is used up: those on page 0 and on page 1 are left.
        due("ways()", x.ways(), 2);
        dueGreatest(x, 1, 2, 1, 1);
        x.put(4, 1, 1);
        due("ways()", x.ways(), 1);
        due("two(), it alone", x.two(), 1);
        HingeCards none = stuck();
        due("ways()", none.ways(), 0);
        due("two()", none.two(), HingeCards.NONE);
        for (int what = 0; what <= 3; what++) due("greatest(" + what + ")", none.greatest(what), HingeCards.NONE);
        for (int what : wrong) due("greatest(" + what + ")", none.greatest(what), HingeCards.OUTSIDE);
        HingeCards y = full();
        due("ways()", y.ways(), 0);
        due("two()", y.two(), HingeCards.NONE);
        for (int what = 0; what <= 3; what++) due("greatest(" + what + ")", y.greatest(what), HingeCards.NONE);
        for (int what : wrong) due("greatest(" + what + ")", y.greatest(what), HingeCards.OUTSIDE);
        y.off();
        // Behind the sixth none can be.
        due("two()", y.two(), 2);
    }

    /** Two CORNERS whose REACH is not the same along p and along q; worked out BOX by BOX. */
    private static void promise9To11BehindASmallBox() {
        HingeCards x = withBox(5, 1, 1);
        // On CORNER 0 around it 2 by 2, 2 by 3, 3 by 2; on CORNERS 2 and 4 three each, one unit broad.
        due("ways()", x.ways(), 9);
        dueGreatest(x, 6, 0, 2, 3);
        // 2 by 3 around it, then 1 by 2 or 2 by 1 beside that.
        due("two()", x.two(), 8);
        due("why(2, 1, 2)", x.why(2, 1, 2), 1);
        due("why(4, 2, 1)", x.why(4, 2, 1), 1);
    }

    private static void dueGreatest(HingeCards x, int size, int corner, int a, int b) {
        due("greatest(0)", x.greatest(0), size);
        due("greatest(1)", x.greatest(1), corner);
        due("greatest(2)", x.greatest(2), a);
        due("greatest(3)", x.greatest(3), b);
    }

    private static void promise12() {
        HingeCards x = withBox(8, 3, 2);
        for (int n : new int[] {LOW, -1, 11, HIGH}) due("view(" + n + ", 0)", x.view(n, 0), HingeCards.OUTSIDE);
        for (int n : new int[] {LOW, -1, 4, HIGH}) due("view(0, " + n + ")", x.view(0, n), HingeCards.OUTSIDE);
        int[] least = {0, 0, 0, 0, 0, 0, -56, -120, -160, -192, -200};
        int[] highest = {0, 56, 120, 160, 192, 200, 192, 160, 120, 56, 0};
        for (int step = 0; step <= 10; step++) {
            due("view(" + step + ", 0)", x.view(step, 0), 1000 + least[step]);
            due("view(" + step + ", 1)", x.view(step, 1), 1200);
            due("view(" + step + ", 2)", x.view(step, 2), 1000 + highest[step]);
            due("view(" + step + ", 3)", x.view(step, 3), 1000);
        }
        HingeCards y = new HingeCards();
        y.size(12);
        due("view(10, 0)", y.view(10, 0), 700);
        due("view(10, 1)", y.view(10, 1), 1300);
        due("view(5, 2)", y.view(5, 2), 1300);
    }

    private static void promise13() {
        HingeCards x = new HingeCards();
        for (int n : new int[] {LOW, -1, 11, HIGH}) due("above(" + n + ", 0, 0)", x.above(n, 0, 0), HingeCards.OUTSIDE);
        for (int n : new int[] {LOW, -601, 601, HIGH}) {
            due("above(0, " + n + ", 0)", x.above(0, n, 0), HingeCards.OUTSIDE);
        }
        for (int n : new int[] {LOW, -1, 3, HIGH}) due("above(0, 0, " + n + ")", x.above(0, 0, n), HingeCards.OUTSIDE);
        due("above(0, 600, 3), nothing there", x.above(0, 600, 3), HingeCards.OUTSIDE);
        dueNothingAbove(x, 0, -600);
        dueNothingAbove(x, 0, 600);
        dueNothingAbove(x, 3, -1);
        dueNothingAbove(x, 3, 201);
        dueAbove(x, 0, 150, 0, 0, 1);
        dueAbove(x, 3, 0, 0, 0, 1);
        dueAbove(x, 3, 60, 1, 80, 1);
        dueAbove(x, 3, 100, 1, 400, 3);
        dueAbove(x, 3, 120, 1, 160, 1);
        dueAbove(x, 3, 121, 0, 0, 1);
        dueAbove(x, 3, 200, 0, 0, 1);
        dueAbove(x, 1, 1, 1, 7, 24);
        dueAbove(x, 1, 2, 1, 7, 12);
        dueAbove(x, 4, 1, 1, 24, 7);
        dueAbove(x, 5, 0, 1, 200, 1);
        dueAbove(x, 5, 1, 0, 0, 1);
        dueNothingAbove(x, 5, -1);
        dueAbove(x, 6, -1, 1, 24, 7);
        dueAbove(x, 8, -1, 1, 3, 4);
        dueAbove(x, 8, -160, 1, 120, 1);
        dueNothingAbove(x, 8, -161);
        dueAbove(x, 8, 0, 0, 0, 1);
        dueAbove(x, 10, -7, 1, 0, 1);
        dueAbove(x, 10, -200, 1, 0, 1);
        dueNothingAbove(x, 10, -201);
    }

    private static void promise13OfBoxes() {
        HingeCards x = withBox(8, 4, 3);
        // Flat or shut all is as high: the least number.
        dueAbove(x, 0, 90, 0, 0, 1);
        dueAbove(x, 10, -75, 1, 0, 1);
        // Upright: FACE 3 is level at 75, FACE 2 ends at 75 over 100, FACE 1 is higher over 0.
        dueAbove(x, 5, 50, 3, 75, 1);
        dueAbove(x, 5, 100, 2, 75, 1);
        dueAbove(x, 5, 101, 0, 0, 1);
        dueAbove(x, 5, 0, 1, 200, 1);
        // At STEP 3 FACE 1 goes through (45, 60), where FACE 3 begins; FACE 3 ends over 145, with FACE 2.
        dueAbove(x, 3, 44, 1, 176, 3);
        dueAbove(x, 3, 45, 1, 60, 1);
        dueAbove(x, 3, 46, 1, 184, 3);
        dueAbove(x, 3, 120, 1, 160, 1);
        dueAbove(x, 3, 121, 3, 60, 1);
        dueAbove(x, 3, 145, 2, 60, 1);
        dueAbove(x, 3, 146, 0, 0, 1);
        // At STEP 7 FACE 1 leans the other way, and so does FACE 2: from (100, 0) to (55, 60).
        dueAbove(x, 7, -46, 1, 184, 3);
        dueAbove(x, 7, -45, 1, 60, 1);
        dueAbove(x, 7, -44, 3, 60, 1);
        dueAbove(x, 7, 55, 2, 60, 1);
        dueAbove(x, 7, 56, 2, 176, 3);
        dueAbove(x, 7, 99, 2, 4, 3);
        dueAbove(x, 7, 100, 0, 0, 1);
    }

    private static void promise14() {
        HingeCards x = withBox(8, 3, 2);
        for (int f : new int[] {LOW, -1, 4, HIGH}) {
            due("apart(" + f + ", 0, 0)", x.apart(f, 0, 0), HingeCards.UNKNOWN);
            due("apart(0, " + f + ", 0)", x.apart(0, f, 0), HingeCards.UNKNOWN);
            due("apart(0, " + f + ", 11)", x.apart(0, f, 11), HingeCards.UNKNOWN);
        }
        for (int step : new int[] {LOW, -1, 11, HIGH}) {
            due("apart(0, 1, " + step + ")", x.apart(0, 1, step), HingeCards.OUTSIDE);
        }
        due("apart(0, 1, 4)", x.apart(0, 1, 4), 0);
        due("apart(2, 2, 3)", x.apart(2, 2, 3), 0);
        due("apart(2, 3, 0)", x.apart(2, 3, 0), 625);
        due("apart(2, 3, 3)", x.apart(2, 3, 3), 45 * 45 + 40 * 40);
        due("apart(2, 3, 5)", x.apart(2, 3, 5), 8125);
        due("apart(3, 2, 5)", x.apart(3, 2, 5), 8125);
        due("apart(2, 3, 10)", x.apart(2, 3, 10), 15625);
        // FACE 4 begins at Z, for it goes from X towards less: (1, 1).
        x.put(5, 2, 1);
        due("apart(0, 4, 5)", x.apart(0, 4, 5), 1250);
        due("apart(4, 5, 5)", x.apart(4, 5, 5), 0);
    }

    private static void promise15And16() {
        HingeCards x = new HingeCards();
        for (int k : new int[] {LOW, -1, 2, 32, HIGH}) {
            due("image(" + k + ")", x.image(k), HingeCards.OUTSIDE);
            due("restore(" + k + ")", x.restore(k), HingeCards.OUTSIDE);
        }
        due("count(6)", x.count(6), 0);
        x.size(10);
        due("put(0, 4, 3)", x.put(0, 4, 3), 4);
        due("image(1)", x.image(1), 1);
        due("count(6)", x.count(6), 2);
        due("restore(0)", x.restore(0), HingeCards.STATE);
        x.put(2, 2, 2);
        due("image(0)", x.image(0), 1);
        due("count(6)", x.count(6), 3);
        x.off();
        x.off();
        x.size(5);
        x.put(0, 1, 1);
        due("restore(1)", x.restore(1), 1);
        dueCounts(x, 1, 4, 6, 10, 12, 27, 3);
        dueFace(x, 2, 1, 4, 0, 3);
        dueCorner(x, 5, 4, 3, -1, -1);
        due("corner(2, 4)", x.corner(2, 4), 6);
        due("why(0, 4, 3)", x.why(0, 4, 3), 3);
        // What comes after does not reach the IMAGE.
        x.off();
        x.size(4);
        due("restore(1)", x.restore(1), 1);
        dueCounts(x, 1, 4, 6, 10, 12, 27, 3);
        due("restore(0)", x.restore(0), 1);
        dueCounts(x, 2, 6, 11, 10, 16, 30, 3);
        due("off()", x.off(), 1);
        due("off()", x.off(), 0);
        due("off()", x.off(), HingeCards.STATE);
        // In place of what was kept there.
        due("image(0)", x.image(0), 1);
        x.put(0, 1, 1);
        due("restore(0)", x.restore(0), 1);
        dueCounts(x, 0, 2, 1, 10, 0, 21, 3);
        due("restore(1)", x.restore(1), 1);
        due("count(0)", x.count(0), 1);
        HingeCards y = full();
        due("image(0)", y.image(0), 1);
        for (int i = 0; i < 6; i++) y.off();
        due("restore(0)", y.restore(0), 1);
        dueCounts(y, 6, 14, 31, 8, 27, 44, 1);
        due("put(0, 1, 1)", y.put(0, 1, 1), HingeCards.FULL);
    }

    private static void promise17() {
        HingeCards x = new HingeCards();
        for (int what : new int[] {LOW, -1, 7, HIGH}) due("count(" + what + ")", x.count(what), HingeCards.OUTSIDE);
        x.size(12);
        dueCounts(x, 0, 2, 1, 12, 0, 25, 0);
        x.put(0, 5, 3);
        dueCounts(x, 1, 4, 6, 12, 15, 32, 0);
        x.image(0);
        x.put(0, 2, 2);
        dueCounts(x, 2, 6, 11, 12, 19, 35, 1);
        x.image(1);
        dueCounts(x, 2, 6, 11, 12, 19, 35, 3);
        dueCounts(full(), 6, 14, 31, 8, 27, 44, 0);
    }
}
