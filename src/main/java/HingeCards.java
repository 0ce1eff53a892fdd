import java.util.Arrays;

/**
 * A card that folds up: two pages hinged at a spine, and up to six boxes folded on the corners of
 * their faces. Words in capitals are those of the document.
 */
public final class HingeCards {
    public static final int UNKNOWN = -1, OUTSIDE = -2, STATE = -3, FULL = -4, NO = -5, NONE = -6;

    private static final int LEAST_LONG = 4;
    private static final int FIRST_LONG = 8;
    private static final int MOST_LONG = 12;
    /** PLACES on a line of the card: 0 to 12, for no BOX can leave the triangle of the two pages. */
    private static final int WIDTH = MOST_LONG + 1;
    private static final int MOST_SIDE = 12;
    private static final int MOST_BOXES = 6;
    private static final int MOST_ACROSS = 600;
    private static final int LAST_STEP = 10;

    private static final int PAGES = 2;
    private static final int FACES_OF_A_BOX = 2;
    private static final int MOST_FACES = PAGES + FACES_OF_A_BOX * MOST_BOXES;
    private static final int CORNERS_OF_A_BOX = 5;
    private static final int MOST_CORNERS = 1 + CORNERS_OF_A_BOX * MOST_BOXES;

    private static final int ALONG_P = 0;
    private static final int ALONG_Q = 1;

    private static final int PLACE_SHIFT = 100;
    private static final int VIEW_SHIFT = 1000;
    private static final int HEIGHT_SHIFT = 100000;

    /** How far one step along p goes ACROSS. */
    private static final int UNIT = 25;
    private static final int[] STEP_C = {25, 24, 20, 15, 7, 0, -7, -15, -20, -24, -25};
    private static final int[] STEP_S = {0, 7, 15, 20, 24, 25, 24, 20, 15, 7, 0};

    private final Card card;
    private final Card image0;
    private final Card image1;
    /** Which IMAGES are kept: bits 0 and 1. */
    private int keptImages;
    private final Search search;
    private final Sight sight;

    public HingeCards() {
        card = new Card();
        image0 = new Card();
        image1 = new Card();
        keptImages = 0;
        search = new Search();
        sight = new Sight();
    }

    // ---- 1 boxes

    public int size(int v) {
        if (!isWithin(v, LEAST_LONG, MOST_LONG)) return OUTSIDE;
        if (card.boxes > 0) return STATE;
        int before = card.pageLength;
        card.begin(v);
        return before;
    }

    public int put(int corner, int a, int b) {
        if (!card.hasCorner(corner)) return UNKNOWN;
        if (!areSides(a, b)) return OUTSIDE;
        if (card.isFull()) return FULL;
        if (card.reasonAgainst(corner, a, b) != 0) return NO;
        card.addBox(corner, a, b);
        return card.faces();
    }

    public int off() {
        if (card.boxes == 0) return STATE;
        card.dropBox();
        return card.boxes;
    }

    public int why(int corner, int a, int b) {
        if (!card.hasCorner(corner)) return UNKNOWN;
        if (!areSides(a, b)) return OUTSIDE;
        return card.reasonAgainst(corner, a, b);
    }

    public int corner(int corner, int what) {
        if (!card.hasCorner(corner)) return UNKNOWN;
        switch (what) {
            case 0: return card.cornerP[corner] + PLACE_SHIFT;
            case 1: return card.cornerQ[corner] + PLACE_SHIFT;
            case 2: return card.cornerU[corner] + 1;
            case 3: return card.cornerV[corner] + 1;
            case 4: return card.reach(corner, ALONG_P);
            case 5: return card.reach(corner, ALONG_Q);
            default: return OUTSIDE;
        }
    }

    public int face(int face, int what) {
        if (!card.hasFace(face)) return UNKNOWN;
        switch (what) {
            case 0: return card.faceAlong[face];
            case 1: return card.firstP(face) + PLACE_SHIFT;
            case 2: return card.firstQ(face) + PLACE_SHIFT;
            case 3: return card.faceLength[face];
            default: return OUTSIDE;
        }
    }

    public int on(int p, int q) {
        if (!isWithin(p, -MOST_LONG, MOST_LONG) || !isWithin(q, -MOST_LONG, MOST_LONG)) return OUTSIDE;
        return card.facesOn(p, q);
    }

    // ---- 2 what can be

    public int ways() {
        search.sweep(card);
        return search.ways;
    }

    public int greatest(int what) {
        if (!isWithin(what, 0, 3)) return OUTSIDE;
        search.sweep(card);
        if (search.ways == 0) return NONE;
        switch (what) {
            case 0: return search.bestSize;
            case 1: return search.bestCorner;
            case 2: return search.bestA;
            default: return search.bestB;
        }
    }

    public int two() {
        int best = search.bestTwo(card);
        return best == 0 ? NONE : best;
    }

    // ---- 3 opened

    public int view(int step, int what) {
        if (!isStep(step)) return OUTSIDE;
        switch (what) {
            case 0: return card.leastAcross(step) + VIEW_SHIFT;
            case 1: return card.greatestAcross(step) + VIEW_SHIFT;
            case 2: return card.greatestUp(step) + VIEW_SHIFT;
            case 3: return card.leastUp(step) + VIEW_SHIFT;
            default: return OUTSIDE;
        }
    }

    public int above(int step, int across, int what) {
        if (!isStep(step) || !isWithin(across, -MOST_ACROSS, MOST_ACROSS) || !isWithin(what, 0, 2)) return OUTSIDE;
        sight.look(card, step, across);
        if (!sight.isAny) return NONE;
        switch (what) {
            case 0: return sight.highestFace;
            case 1: return sight.upper + HEIGHT_SHIFT;
            default: return sight.lower;
        }
    }

    public int apart(int one, int other, int step) {
        if (!card.hasFace(one) || !card.hasFace(other)) return UNKNOWN;
        if (!isStep(step)) return OUTSIDE;
        int across = acrossOf(step, card.firstP(one), card.firstQ(one))
                - acrossOf(step, card.firstP(other), card.firstQ(other));
        int up = upOf(step, card.firstQ(one)) - upOf(step, card.firstQ(other));
        return across * across + up * up;
    }

    // ---- 4 images

    public int image(int k) {
        if (!isImage(k)) return OUTSIDE;
        imageAt(k).copyFrom(card);
        keptImages |= 1 << k;
        return 1;
    }

    public int restore(int k) {
        if (!isImage(k)) return OUTSIDE;
        if (!isBit(keptImages, k)) return STATE;
        card.copyFrom(imageAt(k));
        return 1;
    }

    public int count(int what) {
        switch (what) {
            case 0: return card.boxes;
            case 1: return card.faces();
            case 2: return card.corners();
            case 3: return card.pageLength;
            case 4: return card.sumOfSizes();
            case 5: return card.placesOnFaces();
            case 6: return keptImages;
            default: return OUTSIDE;
        }
    }

    // ---- what the calls above share

    private static boolean isWithin(int x, int least, int most) {
        return x >= least && x <= most;
    }

    private static boolean areSides(int a, int b) {
        return isWithin(a, 1, MOST_SIDE) && isWithin(b, 1, MOST_SIDE);
    }

    private static boolean isStep(int step) {
        return isWithin(step, 0, LAST_STEP);
    }

    private static boolean isImage(int k) {
        return k == 0 || k == 1;
    }

    private Card imageAt(int k) {
        return k == 0 ? image0 : image1;
    }

    private static boolean isBit(int bits, int n) {
        return isWithin(n, 0, 31) && ((bits >>> n) & 1) == 1;
    }

    private static int acrossOf(int step, int p, int q) {
        return isStep(step) ? UNIT * p + STEP_C[step] * q : 0;
    }

    private static int upOf(int step, int q) {
        return isStep(step) ? STEP_S[step] * q : 0;
    }

    /**
     * LONG, the BOXES, and the FACES and CORNERS that they bring. A line of the card is all PLACES
     * with the same q (ALONG_P) or the same p (ALONG_Q).
     */
    private static final class Card {
        int pageLength;
        int boxes;
        final int[] boxCorner = new int[MOST_BOXES];
        final int[] boxA = new int[MOST_BOXES];
        final int[] boxB = new int[MOST_BOXES];

        final int[] faceAlong = new int[MOST_FACES];
        final int[] faceLine = new int[MOST_FACES];
        final int[] faceStart = new int[MOST_FACES];
        final int[] faceLength = new int[MOST_FACES];

        final int[] cornerP = new int[MOST_CORNERS];
        final int[] cornerQ = new int[MOST_CORNERS];
        final int[] cornerU = new int[MOST_CORNERS];
        final int[] cornerV = new int[MOST_CORNERS];

        /** By line: bit n is set if all from n to n + 1 lies on FACES that go along the line. */
        final int[] stretches = new int[2 * WIDTH];
        /** By line: bit n is set if the PLACE at n lies on any FACE. */
        final int[] places = new int[2 * WIDTH];

        Card() {
            begin(FIRST_LONG);
        }

        void begin(int newLength) {
            pageLength = newLength;
            boxes = 0;
            setFace(0, ALONG_P, 0, 0, newLength);
            setFace(1, ALONG_Q, 0, 0, newLength);
            setCorner(0, 0, 0, 1, 1);
            redraw();
        }

        /** LONG and the row of BOXES tell all the rest, so the BOXES are put anew. */
        void copyFrom(Card other) {
            begin(other.pageLength);
            for (int i = 0; i < other.boxes && i < MOST_BOXES; i++) {
                addBox(other.boxCorner[i], other.boxA[i], other.boxB[i]);
            }
        }

        int faces() {
            return PAGES + FACES_OF_A_BOX * boxes;
        }

        int corners() {
            return 1 + CORNERS_OF_A_BOX * boxes;
        }

        boolean hasFace(int f) {
            return f >= 0 && f < faces() && f < MOST_FACES;
        }

        boolean hasCorner(int k) {
            return k >= 0 && k < corners() && k < MOST_CORNERS;
        }

        boolean isFull() {
            return boxes >= MOST_BOXES;
        }

        /** Whether the BOX can be is for the caller to ask. */
        void addBox(int k, int a, int b) {
            if (isFull() || !hasCorner(k)) return;
            int p = cornerP[k];
            int q = cornerQ[k];
            int u = cornerU[k];
            int v = cornerV[k];
            int farP = p + u * a;
            int farQ = q + v * b;
            int f = faces();
            setFace(f, ALONG_Q, farP, Math.min(q, farQ), b);
            setFace(f + 1, ALONG_P, farQ, Math.min(p, farP), a);
            int c = corners();
            setCorner(c, farP, q, -u, v);
            setCorner(c + 1, farP, q, u, v);
            setCorner(c + 2, p, farQ, u, -v);
            setCorner(c + 3, p, farQ, u, v);
            setCorner(c + 4, farP, farQ, -u, -v);
            boxCorner[boxes] = k;
            boxA[boxes] = a;
            boxB[boxes] = b;
            boxes++;
            draw(f);
            draw(f + 1);
        }

        void dropBox() {
            if (boxes == 0) return;
            boxes--;
            redraw();
        }

        void setFace(int f, int along, int line, int start, int length) {
            if (f < 0 || f >= MOST_FACES) return;
            faceAlong[f] = along;
            faceLine[f] = line;
            faceStart[f] = start;
            faceLength[f] = length;
        }

        void setCorner(int k, int p, int q, int u, int v) {
            if (k < 0 || k >= MOST_CORNERS) return;
            cornerP[k] = p;
            cornerQ[k] = q;
            cornerU[k] = u;
            cornerV[k] = v;
        }

        /** All anew, for a PLACE of a FACE that goes may lie on one that stays. */
        void redraw() {
            Arrays.fill(stretches, 0);
            Arrays.fill(places, 0);
            for (int f = 0; f < faces(); f++) draw(f);
        }

        void draw(int f) {
            if (f < 0 || f >= MOST_FACES) return;
            int along = faceAlong[f];
            int line = faceLine[f];
            int start = faceStart[f];
            int end = start + faceLength[f];
            int across = along == ALONG_P ? ALONG_Q : ALONG_P;
            addBits(stretches, along, line, bitsBetween(start, end - 1));
            addBits(places, along, line, bitsBetween(start, end));
            for (int n = start; n <= end; n++) addBits(places, across, n, bitsBetween(line, line));
        }

        static void addBits(int[] rows, int along, int line, int bits) {
            if (line < 0 || line >= WIDTH) return;
            int i = along == ALONG_P ? line : WIDTH + line;
            if (i < rows.length) rows[i] |= bits;
        }

        static int bitsOf(int[] rows, int along, int line) {
            if (line < 0 || line >= WIDTH) return 0;
            int i = along == ALONG_P ? line : WIDTH + line;
            return i < rows.length ? rows[i] : 0;
        }

        static int bitsBetween(int low, int high) {
            return (1 << (high + 1)) - (1 << low);
        }

        int reach(int k, int along) {
            if (!hasCorner(k)) return 0;
            boolean isP = along == ALONG_P;
            int from = isP ? cornerP[k] : cornerQ[k];
            int sign = isP ? cornerU[k] : cornerV[k];
            int row = bitsOf(stretches, along, isP ? cornerQ[k] : cornerP[k]);
            int next = sign > 0 ? from : from - 1;
            for (int r = 0; r < MOST_LONG; r++) {
                if (!isBit(row, next + sign * r)) return r;
            }
            return MOST_LONG;
        }

        int reasonAgainst(int k, int a, int b) {
            if (a > reach(k, ALONG_P) || b > reach(k, ALONG_Q)) return 1;
            return reasonWithinReach(k, a, b);
        }

        /** To be asked only within REACH: only there all PLACES of the BOX are on the card. */
        int reasonWithinReach(int k, int a, int b) {
            if (!hasCorner(k)) return 1;
            int p = cornerP[k];
            int q = cornerQ[k];
            int u = cornerU[k];
            int v = cornerV[k];
            int farP = p + u * a;
            int farQ = q + v * b;
            if (farP + farQ > pageLength) return 2;
            boolean isHit = isAnyTaken(ALONG_Q, farP, q, v, b) || isAnyTaken(ALONG_P, farQ, p, u, a);
            return isHit ? 3 : 0;
        }

        /** Of the n PLACES of a line that come behind one, which itself is left out. */
        boolean isAnyTaken(int along, int line, int behind, int sign, int n) {
            int nearest = behind + sign;
            int farthest = behind + sign * n;
            int bits = bitsBetween(Math.min(nearest, farthest), Math.max(nearest, farthest));
            return (bitsOf(places, along, line) & bits) != 0;
        }

        int firstP(int f) {
            if (!hasFace(f)) return 0;
            return faceAlong[f] == ALONG_P ? faceStart[f] : faceLine[f];
        }

        int firstQ(int f) {
            if (!hasFace(f)) return 0;
            return faceAlong[f] == ALONG_Q ? faceStart[f] : faceLine[f];
        }

        int lastP(int f) {
            if (!hasFace(f)) return 0;
            return faceAlong[f] == ALONG_P ? faceStart[f] + faceLength[f] : faceLine[f];
        }

        int lastQ(int f) {
            if (!hasFace(f)) return 0;
            return faceAlong[f] == ALONG_Q ? faceStart[f] + faceLength[f] : faceLine[f];
        }

        int facesOn(int p, int q) {
            int n = 0;
            for (int f = 0; f < faces(); f++) {
                if (isWithin(p, firstP(f), lastP(f)) && isWithin(q, firstQ(f), lastQ(f))) n++;
            }
            return n;
        }

        int placesOnFaces() {
            int n = 0;
            for (int q = 0; q < WIDTH; q++) n += Integer.bitCount(bitsOf(places, ALONG_P, q));
            return n;
        }

        int sumOfSizes() {
            int sum = 0;
            for (int i = 0; i < boxes && i < MOST_BOXES; i++) sum += boxA[i] * boxB[i];
            return sum;
        }

        // FACES lie straight, so the ends of each tell the least and the greatest.

        int leastAcross(int step) {
            int least = acrossOf(step, 0, 0);
            for (int f = 0; f < faces(); f++) {
                least = Math.min(least, acrossOf(step, firstP(f), firstQ(f)));
                least = Math.min(least, acrossOf(step, lastP(f), lastQ(f)));
            }
            return least;
        }

        int greatestAcross(int step) {
            int greatest = acrossOf(step, 0, 0);
            for (int f = 0; f < faces(); f++) {
                greatest = Math.max(greatest, acrossOf(step, firstP(f), firstQ(f)));
                greatest = Math.max(greatest, acrossOf(step, lastP(f), lastQ(f)));
            }
            return greatest;
        }

        // UP grows with q alone and s is never below 0: first ends are lowest, last ends highest.

        int greatestUp(int step) {
            int greatest = upOf(step, 0);
            for (int f = 0; f < faces(); f++) greatest = Math.max(greatest, upOf(step, lastQ(f)));
            return greatest;
        }

        int leastUp(int step) {
            int least = upOf(step, 0);
            for (int f = 0; f < faces(); f++) least = Math.min(least, upOf(step, firstQ(f)));
            return least;
        }
    }

    /** Goes through all BOXES that can be, by CORNER, then by a. */
    private static final class Search {
        int ways;
        /** GREATEST, if ways is not 0. */
        int bestSize;
        int bestCorner;
        int bestA;
        int bestB;

        void sweep(Card card) {
            ways = 0;
            bestSize = 0;
            if (card.isFull()) return;
            int corners = card.corners();
            for (int k = 0; k < corners; k++) {
                int reachP = card.reach(k, ALONG_P);
                int reachQ = card.reach(k, ALONG_Q);
                for (int a = 1; a <= reachP; a++) {
                    for (int b = 1; b <= reachQ; b++) {
                        if (card.reasonWithinReach(k, a, b) == 0) meet(k, a, b);
                    }
                }
            }
        }

        void meet(int k, int a, int b) {
            ways++;
            if (a * b <= bestSize) return;
            bestSize = a * b;
            bestCorner = k;
            bestA = a;
            bestB = b;
        }

        /** BEST TWO, or 0 if no BOX can be. */
        int bestTwo(Card card) {
            int best = 0;
            if (card.isFull()) return best;
            int corners = card.corners();
            for (int k = 0; k < corners; k++) {
                int reachP = card.reach(k, ALONG_P);
                int reachQ = card.reach(k, ALONG_Q);
                for (int a = 1; a <= reachP; a++) {
                    for (int b = 1; b <= reachQ; b++) {
                        if (card.reasonWithinReach(k, a, b) != 0) continue;
                        best = Math.max(best, a * b + sizeBehind(card, k, a, b));
                    }
                }
            }
            return best;
        }

        /** The BOX is put and taken off again, which leaves the card as it was. */
        int sizeBehind(Card card, int k, int a, int b) {
            card.addBox(k, a, b);
            sweep(card);
            card.dropBox();
            return bestSize;
        }
    }

    /** What is ABOVE an ACROSS: a FACE, and how high it is there, upper / lower in lowest terms. */
    private static final class Sight {
        boolean isAny;
        int highestFace;
        int upper;
        int lower;

        void look(Card card, int step, int across) {
            isAny = false;
            highestFace = 0;
            upper = 0;
            lower = 1;
            if (!isStep(step)) return;
            for (int f = 0; f < card.faces(); f++) {
                if (!card.hasFace(f)) continue;
                if (card.faceAlong[f] == ALONG_P) meetLevel(card, f, step, across);
                else meetSlope(card, f, step, across);
            }
            reduce();
        }

        /** A FACE along p is everywhere as high. */
        void meetLevel(Card card, int f, int step, int across) {
            int left = acrossOf(step, card.firstP(f), card.firstQ(f));
            int right = acrossOf(step, card.lastP(f), card.lastQ(f));
            if (isWithin(across, left, right)) meet(f, upOf(step, card.firstQ(f)), 1);
        }

        /** A FACE along q is at the ACROSS where q is (across - 25 p) / c; if c is 0, it stands upright. */
        void meetSlope(Card card, int f, int step, int across) {
            int c = acrossOf(step, 0, 1);
            int ahead = across - UNIT * card.firstP(f);
            if (c == 0) {
                if (ahead == 0) meet(f, upOf(step, card.lastQ(f)), 1);
                return;
            }
            int lean = Math.abs(c);
            int forward = c > 0 ? ahead : -ahead;
            if (isWithin(forward, lean * card.firstQ(f), lean * card.lastQ(f))) meet(f, upOf(step, forward), lean);
        }

        void meet(int f, int newUpper, int newLower) {
            if (isAny && newUpper * lower <= upper * newLower) return;
            isAny = true;
            highestFace = f;
            upper = newUpper;
            lower = newLower;
        }

        void reduce() {
            for (int d = lower; d > 1; d--) {
                if (upper % d == 0 && lower % d == 0) {
                    upper /= d;
                    lower /= d;
                    return;
                }
            }
        }
    }
}
