import java.util.List;
import java.util.function.Consumer;
import java.util.function.Supplier;

/**
 * 'What it is' and 'Terms' of the document, sentence by sentence: each that names a boundary case has a test
 * of its own. Answers are worked out by hand.
 */
public final class BoundariesOfTermsTest {
    private static final int UNKNOWN = -1, OUTSIDE = -2, STATE = -3, FULL = -4, NO = -5, NONE = -6;
    private static final Due DUE = new Due();

    private BoundariesOfTermsTest() {
    }

    public static void main(String[] args) throws Exception {
        Sentences document = new Sentences(DUE);
        document.part("## What it is");
        document.tell("A card that folds up.");
        document.names("An object is used for at most 512 calls after it has been made; what later calls answer is free.",
                BoundariesOfTermsTest::last512th);
        document.part("## Terms");
        document.tell("From two pages, hinged at a spine, boxes are folded, on the corner of two faces each; all faces"
                + " stay beside one page or the other, however far the card is opened, and lie flat when it is shut.");
        document.tell("It is told which boxes can be, and why others can not: nothing must stick out of the shut card,"
                + " nothing must hit; which box is greatest, which two; where everything is at each step of opening,"
                + " and what one sees from above.");
        refusals(document);
        facesAndCorners(document);
        boxes(document);
        sizes(document);
        steps(document);
        document.end();
        DUE.end("BoundariesOfTermsTest");
    }

    private static Asked ask(HingeCards x) {
        return new Asked(DUE, x);
    }

    private static Asked fresh(int pages) {
        return ask(Cards.pages(pages));
    }

    private static Asked of(int pages, int[]... boxes) {
        return ask(Cards.of(pages, boxes));
    }

    private static int[] box(int corner, int a, int b) {
        return Cards.box(corner, a, b);
    }

    // ---- what it is

    private static void last512th() {
        Asked x = ask(new HingeCards());
        for (int call = 1; call <= 509; call += 2) x.put(0, 1, 1).is(4).off().is(0);
        x.put(0, 4, 4).is(4);
        x.two().is(13); // call 512: 3 by 3 in it, then 2 by 2 in that or beside the first
        // What a later call answers is free, but it must not throw.
        HingeCards y = new HingeCards();
        for (int call = 1; call <= 2000; call++) y.put(0, 1, call % 14);
        DUE.holds("later calls end", true);
    }

    // ---- refusals

    private static void refusals(Sentences document) {
        document.names("Calls that are refused answer the first that fits, in the order in which they are told with the"
                + " call: UNKNOWN -1 (no such CORNER, FACE), OUTSIDE -2 (another number is not as told), STATE -3,"
                + " FULL -4, NO -5 (as told with the call).", BoundariesOfTermsTest::orderOfRefusals);
        document.names("NONE -6 is answered only where no refusal fits.", BoundariesOfTermsTest::noneBehindRefusals);
        document.names("What is refused changes nothing.", BoundariesOfTermsTest::refusedChangesNothing);
        document.names("All that is told is as things are when it is asked.", BoundariesOfTermsTest::asThingsAre);
        document.names("The constants: `UNKNOWN = -1, OUTSIDE = -2, STATE = -3, FULL = -4, NO = -5, NONE = -6`:"
                + " What refused calls answer; NONE: there is none.", BoundariesOfTermsTest::constants);
    }

    private static void orderOfRefusals() {
        Asked x = ask(Cards.full());
        // put: UNKNOWN, OUTSIDE, FULL, NO; each with all that come behind it.
        x.put(31, 0, 13).is(UNKNOWN).put(-1, 13, 0).is(UNKNOWN).put(31, 1, 1).is(UNKNOWN).put(31, 12, 12).is(UNKNOWN);
        x.put(30, 0, 12).is(OUTSIDE).put(30, 12, 13).is(OUTSIDE).put(0, 0, 0).is(OUTSIDE);
        x.put(30, 12, 12).is(FULL).put(0, 1, 1).is(FULL);
        x.off().is(5).put(25, 12, 12).is(NO).put(25, 13, 12).is(OUTSIDE).put(26, 12, 12).is(UNKNOWN);
        // size: OUTSIDE, STATE.
        x.size(3).is(OUTSIDE).size(13).is(OUTSIDE).size(4).is(STATE).size(12).is(STATE);
        // UNKNOWN, OUTSIDE.
        x.why(26, 0, 13).is(UNKNOWN).why(-1, 13, 0).is(UNKNOWN).why(25, 0, 12).is(OUTSIDE);
        x.corner(26, 6).is(UNKNOWN).corner(-1, -1).is(UNKNOWN).corner(25, 6).is(OUTSIDE);
        x.face(12, 4).is(UNKNOWN).face(-1, -1).is(UNKNOWN).face(11, 4).is(OUTSIDE);
        x.apart(12, 0, 11).is(UNKNOWN).apart(0, 12, -1).is(UNKNOWN).apart(-1, -1, 11).is(UNKNOWN);
        x.apart(11, 0, 11).is(OUTSIDE).apart(0, 11, -1).is(OUTSIDE);
        // restore: OUTSIDE, STATE, as nothing is kept.
        x.restore(2).is(OUTSIDE).restore(-1).is(OUTSIDE).restore(0).is(STATE).restore(1).is(STATE);
    }

    private static void noneBehindRefusals() {
        for (Asked x : List.of(ask(Cards.full()), ask(Cards.stuck()))) {
            x.greatest(-1).is(OUTSIDE).greatest(4).is(OUTSIDE);
            for (int what = 0; what <= 3; what++) x.greatest(what).is(NONE);
            x.nothingAbove(0, 201).nothingAbove(0, 600).nothingAbove(10, -600);
            x.above(0, 201, 3).is(OUTSIDE).above(0, 201, -1).is(OUTSIDE);
            x.above(11, 201, 0).is(OUTSIDE).above(-1, 201, 0).is(OUTSIDE);
            x.above(0, 601, 0).is(OUTSIDE).above(0, -601, 0).is(OUTSIDE);
        }
    }

    private static void refusedChangesNothing() {
        refusedKeep("of a new card", HingeCards::new, x -> { });
        // In IMAGE 0 another card than now, in IMAGE 1 nothing.
        Supplier<HingeCards> some = () -> {
            HingeCards x = Cards.of(10, box(0, 4, 3), box(1, 2, 2));
            x.image(0);
            x.off();
            return x;
        };
        refusedKeep("of a card with a BOX", some, x -> x.restore(0));
        Supplier<HingeCards> six = () -> {
            HingeCards x = Cards.full();
            x.image(1);
            return x;
        };
        refusedKeep("of a full card", six, x -> x.restore(1));
        refusedKeep("of a card where no BOX can be", Cards::stuck, x -> { });
    }

    /** All calls with all that is refused in any state; those that are not refused in this one only tell. */
    private static void refusedKeep(String name, Supplier<HingeCards> make, Consumer<HingeCards> back) {
        Supplier<HingeCards> refused = Cards.after(make, BoundariesOfTermsTest::refuse);
        DUE.holds("refused calls " + name + " keep all", Cards.told(make).equals(Cards.told(refused)));
        DUE.holds("refused calls " + name + " keep the IMAGES",
                Cards.told(Cards.after(make, back)).equals(Cards.told(Cards.after(refused, back))));
    }

    private static void refuse(HingeCards x) {
        boolean hasBox = x.count(0) > 0;
        boolean isFull = x.count(0) == 6;
        int corners = x.count(2);
        int faces = x.count(1);
        Asked asked = ask(x);
        asked.size(3).is(OUTSIDE).size(13).is(OUTSIDE);
        if (hasBox) asked.size(4).is(STATE).size(12).is(STATE);
        else asked.off().is(STATE);
        asked.put(corners, 1, 1).is(UNKNOWN).put(-1, 1, 1).is(UNKNOWN);
        asked.put(0, 0, 1).is(OUTSIDE).put(0, 1, 0).is(OUTSIDE).put(0, 13, 1).is(OUTSIDE).put(0, 1, 13).is(OUTSIDE);
        // One of each reason: REACH, sticks out, hits.
        int refusal = isFull ? FULL : NO;
        asked.put(0, 12, 12).is(refusal).put(0, x.count(3), x.count(3)).is(refusal);
        if (hasBox) asked.put(0, x.face(2, 1) - 100, 1).is(refusal);
        asked.why(corners, 1, 1).is(UNKNOWN).why(0, 0, 1).is(OUTSIDE).why(0, 1, 13).is(OUTSIDE);
        asked.corner(corners, 0).is(UNKNOWN).corner(0, 6).is(OUTSIDE).face(faces, 0).is(UNKNOWN).face(0, 4).is(OUTSIDE);
        asked.on(13, 0).is(OUTSIDE).on(0, -13).is(OUTSIDE).greatest(4).is(OUTSIDE);
        asked.view(11, 0).is(OUTSIDE).view(0, 4).is(OUTSIDE);
        asked.above(11, 0, 0).is(OUTSIDE).above(0, 601, 0).is(OUTSIDE).above(0, 0, 3).is(OUTSIDE);
        asked.apart(faces, 0, 0).is(UNKNOWN).apart(0, 1, 11).is(OUTSIDE);
        asked.image(2).is(OUTSIDE).image(-1).is(OUTSIDE).restore(2).is(OUTSIDE).restore(-1).is(OUTSIDE);
        for (int k = 0; k <= 1; k++) if ((x.count(6) >> k & 1) == 0) asked.restore(k).is(STATE);
        asked.count(7).is(OUTSIDE).count(-1).is(OUTSIDE);
    }

    /** What is asked twice, with a change between, is told anew; what is asked does not change what is told. */
    private static void asThingsAre() {
        Asked x = fresh(4);
        x.ways().is(6).two().is(5).greatestIs(4, 0, 2, 2).why(0, 2, 2).is(0).count(5).is(9);
        x.put(0, 2, 2).is(4);
        x.ways().is(6).two().is(2).greatestIs(1, 0, 1, 1).why(0, 2, 2).is(3).count(5).is(12);
        x.off().is(0);
        x.ways().is(6).two().is(5).greatestIs(4, 0, 2, 2).why(0, 2, 2).is(0).count(5).is(9);
        x.size(12).is(4).view(5, 2).is(1300).reachIs(0, 12, 12).faceIs(1, 1, 0, 0, 12);
        x.size(5).is(12).view(5, 2).is(1125).reachIs(0, 5, 5).faceIs(1, 1, 0, 0, 5);
        // The REACH of an older CORNER grows by a FACE of a newer BOX, and shrinks when it goes.
        Asked y = of(8, box(0, 3, 2));
        y.reachIs(4, 3, 6).put(2, 3, 2).is(6).reachIs(4, 6, 6).off().is(1).reachIs(4, 3, 6);
        Supplier<HingeCards> some = () -> Cards.of(9, box(0, 4, 3), box(2, 1, 3));
        Supplier<HingeCards> looked = Cards.after(some, z -> {
            z.two();
            z.ways();
            z.greatest(0);
            z.above(3, 50, 1);
            z.view(3, 1);
        });
        DUE.holds("telling changes nothing", Cards.told(some).equals(Cards.told(looked)));
    }

    private static void constants() {
        DUE.is("UNKNOWN", HingeCards.UNKNOWN, -1);
        DUE.is("OUTSIDE", HingeCards.OUTSIDE, -2);
        DUE.is("STATE", HingeCards.STATE, -3);
        DUE.is("FULL", HingeCards.FULL, -4);
        DUE.is("NO", HingeCards.NO, -5);
        DUE.is("NONE", HingeCards.NONE, -6);
    }

    // ---- FACES and CORNERS

    private static void facesAndCorners(Sentences document) {
        document.tell("PLACES are (p, q), whole numbers: so far along page 0, so far along page 1.");
        document.names("LONG is 4 to 12 (8 at first).", BoundariesOfTermsTest::leastAndMostLong);
        document.names("A FACE is all PLACES, and what is between them, from one PLACE to another one, ALONG p (q is the"
                + " same) or ALONG q.", BoundariesOfTermsTest::endsOfFaces);
        document.names("FACE 0 is ALONG p, from (0, 0) to (LONG, 0), FACE 1 ALONG q, from (0, 0) to (0, LONG); others are"
                + " numbered from 2 on as they come.", BoundariesOfTermsTest::numbersOfFaces);
        document.names("A CORNER is a PLACE with two signs, u and v, 1 or -1 each.", BoundariesOfTermsTest::signs);
        document.names("CORNER 0 is (0, 0) with 1 and 1; others are numbered from 1 on as they come.",
                BoundariesOfTermsTest::numbersOfCorners);
        document.names("REACH of a CORNER ALONG p: the greatest r, 0 or more, such that all between each two PLACES next"
                + " to one another from (p, q) to (p and u r, q) lies on FACES ALONG p;",
                BoundariesOfTermsTest::reachAlongP);
        document.names("ALONG q likewise, by v.", BoundariesOfTermsTest::reachAlongQ);
        document.names("(PLACES, CORNERS are told with 100 added to p and q.)", BoundariesOfTermsTest::hundredAdded);
    }

    private static void leastAndMostLong() {
        Asked x = ask(new HingeCards());
        x.count(3).is(8).size(3).is(OUTSIDE).size(13).is(OUTSIDE).count(3).is(8);
        int before = 8;
        for (int v = 4; v <= 12; v++) {
            x.size(v).is(before).count(3).is(v);
            before = v;
        }
    }

    private static void endsOfFaces() {
        Asked x = fresh(8);
        x.on(0, 0).is(2).on(8, 0).is(1).on(9, 0).is(0).on(-1, 0).is(0).on(0, 8).is(1).on(0, 9).is(0).on(0, -1).is(0);
        x.put(0, 3, 2).is(4);
        // FACE 2 from (3, 0) to (3, 2), FACE 3 from (0, 2) to (3, 2).
        x.on(3, 0).is(2).on(3, 1).is(1).on(3, 2).is(2).on(3, 3).is(0).on(3, -1).is(0);
        x.on(0, 2).is(2).on(1, 2).is(1).on(4, 2).is(0).on(-1, 2).is(0).on(2, 1).is(0);
        // From Z to Y and X where the signs are -1: FACE 4 from (2, 1) to (2, 2), FACE 5 from (2, 1) to (3, 1).
        x.put(5, 1, 1).is(6).on(2, 1).is(2).on(2, 2).is(2).on(3, 1).is(2).on(1, 1).is(0).on(2, 0).is(1);
        // Four FACES end or begin at (4, 4).
        of(12, box(0, 4, 4), box(4, 4, 2), box(2, 2, 4)).on(4, 4).is(4);
    }

    private static void numbersOfFaces() {
        for (int v = 4; v <= 12; v++) fresh(v).faceIs(0, 0, 0, 0, v).faceIs(1, 1, 0, 0, v).face(2, 0).is(UNKNOWN);
        Asked x = fresh(8);
        x.put(0, 3, 2).is(4).faceIs(2, 1, 3, 0, 2).faceIs(3, 0, 0, 2, 3).face(4, 0).is(UNKNOWN);
        x.put(2, 1, 1).is(6).faceIs(4, 1, 4, 0, 1).faceIs(5, 0, 3, 1, 1).face(6, 0).is(UNKNOWN);
        // The numbers of a BOX that went come again.
        x.off().is(1).put(4, 2, 3).is(6).faceIs(4, 1, 2, 2, 3).faceIs(5, 0, 0, 5, 2).face(6, 0).is(UNKNOWN);
        ask(Cards.full()).faceIs(12, 1, 6, 0, 2).faceIs(13, 0, 5, 2, 1).face(14, 0).is(UNKNOWN);
    }

    private static void signs() {
        Asked x = of(8, box(0, 3, 2));
        int[][] signs = {{2, 2}, {0, 2}, {2, 2}, {2, 0}, {2, 2}, {0, 0}};
        for (int k = 0; k < signs.length; k++) x.corner(k, 2).is(signs[k][0]).corner(k, 3).is(signs[k][1]);
    }

    private static void numbersOfCorners() {
        Asked x = fresh(8);
        x.cornerIs(0, 0, 0, 1, 1).corner(1, 0).is(UNKNOWN).corner(-1, 0).is(UNKNOWN).count(2).is(1);
        x.put(0, 3, 2).is(4).cornerIs(0, 0, 0, 1, 1).cornerIs(1, 3, 0, -1, 1).cornerIs(5, 3, 2, -1, -1);
        x.corner(6, 0).is(UNKNOWN).count(2).is(6);
        x.put(2, 1, 1).is(6).cornerIs(6, 4, 0, -1, 1).cornerIs(10, 4, 1, -1, -1).corner(11, 0).is(UNKNOWN);
        x.off().is(1).corner(6, 0).is(UNKNOWN).put(4, 2, 3).is(6).cornerIs(6, 2, 2, -1, 1).cornerIs(10, 2, 5, -1, -1);
        ask(Cards.full()).cornerIs(26, 6, 0, -1, 1).cornerIs(30, 6, 2, -1, -1).corner(31, 0).is(UNKNOWN).count(2).is(31);
    }

    private static void reachAlongP() {
        for (int v = 4; v <= 12; v++) fresh(v).corner(0, 4).is(v);
        // 0: FACE 3 ends at (4, 4), where CORNER 7 looks on.
        Asked x = of(12, box(0, 4, 4), box(4, 4, 2));
        x.cornerIs(7, 4, 4, 1, 1).corner(7, 4).is(0).why(7, 1, 1).is(1);
        // By u = -1, to the end of the FACE and not beyond it.
        x.cornerIs(1, 4, 0, -1, 1).corner(1, 4).is(4).cornerIs(6, 4, 4, -1, 1).corner(6, 4).is(4);
        // From the middle of a FACE to either side.
        Asked y = of(8, box(0, 3, 2));
        y.corner(1, 4).is(3).corner(2, 4).is(5);
        // Over two FACES that meet.
        y.put(2, 3, 2).is(6).cornerIs(4, 0, 2, 1, 1).corner(4, 4).is(6).cornerIs(10, 6, 2, -1, -1).corner(10, 4).is(6);
        // (1, 2) and (2, 2) lie on FACES ALONG p, but nothing between them does.
        Asked gap = of(8, box(0, 4, 4), box(0, 1, 2), box(1, 2, 2));
        gap.on(1, 2).is(2).on(2, 2).is(2).cornerIs(8, 0, 2, 1, -1).corner(8, 4).is(1);
        gap.cornerIs(13, 4, 2, -1, -1).corner(13, 4).is(2);
        // FACE 5 ends at (1, 2), one PLACE before page 1.
        of(8, box(0, 4, 4), box(1, 3, 2)).faceIs(5, 0, 1, 2, 3).cornerIs(8, 4, 2, -1, -1).corner(8, 4).is(3);
        // A FACE across is none ALONG p: from (2, 1) FACE 4 goes on to (3, 1) alone, though (2, 1) is on FACE 2.
        of(8, box(0, 2, 2), box(2, 1, 1)).cornerIs(8, 2, 1, 1, -1).corner(8, 4).is(1).cornerIs(10, 3, 1, -1, -1)
                .corner(10, 4).is(1);
    }

    private static void reachAlongQ() {
        for (int v = 4; v <= 12; v++) fresh(v).corner(0, 5).is(v);
        // 0: FACE 2 ends at (4, 4), where CORNER 9 looks on.
        Asked x = of(12, box(0, 4, 4), box(2, 2, 4));
        x.cornerIs(9, 4, 4, 1, 1).corner(9, 5).is(0).why(9, 1, 1).is(1);
        x.cornerIs(3, 0, 4, 1, -1).corner(3, 5).is(4).cornerIs(8, 4, 4, 1, -1).corner(8, 5).is(4);
        Asked y = of(8, box(0, 2, 3));
        y.corner(3, 5).is(3).corner(4, 5).is(5);
        y.put(4, 2, 3).is(6).cornerIs(2, 2, 0, 1, 1).corner(2, 5).is(6).cornerIs(10, 2, 6, -1, -1).corner(10, 5).is(6);
        Asked gap = of(8, box(0, 4, 4), box(0, 2, 1), box(3, 2, 2));
        gap.on(2, 1).is(2).on(2, 2).is(2).cornerIs(6, 2, 0, -1, 1).corner(6, 5).is(1);
        gap.cornerIs(11, 2, 4, -1, -1).corner(11, 5).is(2);
        of(8, box(0, 4, 4), box(3, 2, 3)).faceIs(4, 1, 2, 1, 3).cornerIs(6, 2, 4, -1, -1).corner(6, 5).is(3);
        of(8, box(0, 2, 2), box(4, 1, 1)).cornerIs(6, 1, 2, -1, 1).corner(6, 5).is(1).cornerIs(10, 1, 3, -1, -1)
                .corner(10, 5).is(1);
    }

    private static void hundredAdded() {
        fresh(4).corner(0, 0).is(100).corner(0, 1).is(100).face(0, 1).is(100).face(0, 2).is(100);
        of(12, box(0, 11, 1)).corner(1, 0).is(111).corner(1, 1).is(100).face(2, 1).is(111).face(2, 2).is(100);
        of(12, box(0, 1, 11)).corner(3, 0).is(100).corner(3, 1).is(111).face(3, 1).is(100).face(3, 2).is(111);
    }

    // ---- BOXES

    private static void boxes(Sentences document) {
        document.names("A BOX on a CORNER, a and b, 1 to 12 each, brings two FACES: that ALONG q from X, which is"
                + " (p and u a, q), to Z, (p and u a, q and v b), then that ALONG p from Y, which is (p, q and v b), to Z.",
                BoundariesOfTermsTest::leastAndMostBox);
        document.names("(By p and u a p and u times a, added, are meant; likewise by q and v b.)",
                BoundariesOfTermsTest::boxesBySigns);
        document.names("It brings five CORNERS, in this order: X with -u and v; X with u and v; Y with u and -v; Y with u"
                + " and v; Z with -u and -v.", BoundariesOfTermsTest::fiveCorners);
        document.names("A BOX can not be for the least of these reasons:", BoundariesOfTermsTest::leastReason);
        document.names("1 a is above REACH ALONG p, or b above that ALONG q;", BoundariesOfTermsTest::reasonReach);
        document.names("2 Z sticks out: its p and q, added, are above LONG;", BoundariesOfTermsTest::reasonSticksOut);
        document.names("3 it hits: a PLACE of its FACES other than X and Y lies on a FACE that there is.",
                BoundariesOfTermsTest::reasonHits);
        document.names("Up to 6 BOXES can be; they go in the order in which the last came first.",
                BoundariesOfTermsTest::sixBoxes);
    }

    private static void leastAndMostBox() {
        fresh(4).put(0, 1, 1).is(4).faceIs(2, 1, 1, 0, 1).faceIs(3, 0, 0, 1, 1);
        fresh(12).put(0, 11, 1).is(4).faceIs(2, 1, 11, 0, 1).faceIs(3, 0, 0, 1, 11);
        fresh(12).put(0, 1, 11).is(4).faceIs(2, 1, 1, 0, 11).faceIs(3, 0, 0, 11, 1);
        // 12 is a number as told, though no such BOX can be.
        Asked x = fresh(12);
        x.put(0, 12, 1).is(NO).put(0, 1, 12).is(NO).put(0, 13, 1).is(OUTSIDE).put(0, 1, 13).is(OUTSIDE);
        x.put(0, 0, 1).is(OUTSIDE).put(0, 1, 0).is(OUTSIDE).put(0, -1, 1).is(OUTSIDE).put(0, 1, -1).is(OUTSIDE);
    }

    private static void boxesBySigns() {
        // On (6, 4), (6, 0), (0, 4), each with a CORNER that looks into the BOX of 6 by 4.
        of(10, box(0, 6, 4), box(5, 5, 3)).faceIs(4, 1, 1, 1, 3).faceIs(5, 0, 1, 1, 5);
        of(10, box(0, 6, 4), box(1, 5, 3)).faceIs(4, 1, 1, 0, 3).faceIs(5, 0, 1, 3, 5);
        of(10, box(0, 6, 4), box(3, 5, 3)).faceIs(4, 1, 5, 1, 3).faceIs(5, 0, 0, 1, 5);
        of(10, box(0, 6, 4), box(0, 5, 3)).faceIs(4, 1, 5, 0, 3).faceIs(5, 0, 0, 3, 5);
    }

    private static void fiveCorners() {
        of(8, box(0, 3, 2)).cornerIs(1, 3, 0, -1, 1).cornerIs(2, 3, 0, 1, 1).cornerIs(3, 0, 2, 1, -1)
                .cornerIs(4, 0, 2, 1, 1).cornerIs(5, 3, 2, -1, -1);
        of(10, box(0, 6, 4), box(5, 5, 3)).cornerIs(6, 1, 4, 1, -1).cornerIs(7, 1, 4, -1, -1)
                .cornerIs(8, 6, 1, -1, 1).cornerIs(9, 6, 1, -1, -1).cornerIs(10, 1, 1, 1, 1);
        of(10, box(0, 6, 4), box(1, 5, 3)).cornerIs(6, 1, 0, 1, 1).cornerIs(7, 1, 0, -1, 1)
                .cornerIs(8, 6, 3, -1, -1).cornerIs(9, 6, 3, -1, 1).cornerIs(10, 1, 3, 1, -1);
        of(10, box(0, 6, 4), box(3, 5, 3)).cornerIs(6, 5, 4, -1, -1).cornerIs(7, 5, 4, 1, -1)
                .cornerIs(8, 0, 1, 1, 1).cornerIs(9, 0, 1, 1, -1).cornerIs(10, 5, 1, -1, 1);
    }

    private static void leastReason() {
        Asked x = of(8, box(0, 4, 3));
        x.why(0, 9, 9).is(1); // above REACH, and sticks out
        x.why(5, 5, 1).is(1); // above REACH, and through page 1
        x.why(0, 9, 2).is(1); // all three
        x.why(0, 8, 2).is(2); // sticks out, and hits FACE 2
        x.why(0, 4, 5).is(2); // sticks out, and lies on FACE 2
        x.why(0, 4, 2).is(3); // lies on FACE 2 alone
        x.why(0, 3, 2).is(0);
    }

    private static void reasonReach() {
        Asked x = fresh(8);
        x.why(0, 8, 1).is(2).why(0, 9, 1).is(1).why(0, 1, 8).is(2).why(0, 1, 9).is(1).why(0, 12, 12).is(1);
        // As far as REACH goes, and 1 more, with room for both.
        Asked y = of(12, box(0, 4, 4));
        y.reachIs(4, 4, 8).why(4, 4, 2).is(0).why(4, 5, 2).is(1);
        y.reachIs(2, 8, 4).why(2, 2, 4).is(0).why(2, 2, 5).is(1);
        y.put(4, 4, 2).is(6).reachIs(7, 0, 2).why(7, 1, 1).is(1).put(7, 1, 1).is(NO);
    }

    private static void reasonSticksOut() {
        for (int v = 4; v <= 12; v++) {
            Asked x = fresh(v);
            for (int a = 1; a < v; a++) x.why(0, a, v - a).is(0).why(0, a, v - a + 1).is(2);
            x.why(0, v, 1).is(2);
        }
        // Of a CORNER that is not at (0, 0), and of one with u = 1 and v = -1.
        Asked y = of(12, box(0, 4, 4));
        y.why(2, 4, 4).is(0).why(2, 5, 4).is(2).why(4, 4, 4).is(0).why(4, 4, 5).is(2);
        y.why(3, 3, 3).is(0);
    }

    private static void reasonHits() {
        Asked x = of(8, box(0, 4, 1));
        x.why(0, 2, 3).is(3); // ALONG q through (2, 1); Z is free
        x.why(0, 3, 1).is(3); // on FACE 3, Z within it
        x.why(0, 5, 1).is(3); // on all of FACE 3, Z beyond it
        x.why(0, 5, 2).is(0); // around it
        Asked y = of(8, box(0, 1, 4));
        y.why(0, 3, 2).is(3).why(0, 1, 3).is(3).why(0, 1, 5).is(3).why(0, 2, 5).is(0);
        // Z alone: on a FACE of a BOX, on its end, on either page.
        Asked z = of(12, box(0, 4, 4));
        z.why(1, 1, 4).is(3).why(5, 4, 1).is(3).why(5, 1, 4).is(3).why(5, 4, 4).is(3).why(0, 4, 4).is(3);
        z.why(5, 3, 3).is(0).why(0, 3, 3).is(0).why(0, 5, 5).is(0);
        // X and Y lie on FACES, even on the ends of several, and do not count.
        z.put(4, 4, 2).is(6).on(4, 6).is(2).why(2, 2, 6).is(0).on(4, 4).is(3).why(2, 2, 4).is(0);
        // That which went is hit no more.
        z.off().is(1).off().is(0).why(0, 4, 4).is(0);
    }

    private static void sixBoxes() {
        Asked x = ask(Cards.comb(5));
        x.count(0).is(5).put(22, 1, 2).is(14).count(0).is(6).put(27, 1, 1).is(FULL).count(0).is(6);
        // 7, 6, 5, 4, 3, 2: the last goes first.
        int[] sizes = {25, 22, 18, 13, 7, 0};
        for (int i = 0; i < 6; i++) x.off().is(5 - i).count(4).is(sizes[i]).face(12 - 2 * i, 0).is(UNKNOWN);
        x.off().is(STATE);
    }

    // ---- SIZES

    private static void sizes(Sentences document) {
        document.names("SIZE of a BOX: a times b.", BoundariesOfTermsTest::size);
        document.names("GREATEST: the BOX of the greatest SIZE of all that can be; of such that on the least CORNER, of"
                + " such that with the least a.", BoundariesOfTermsTest::greatest);
        document.names("BEST TWO: the greatest sum of SIZES of a BOX that can be and of one that can be behind it (0 and"
                + " more: if none can be behind it, it alone).", BoundariesOfTermsTest::bestTwo);
    }

    private static void size() {
        of(12, box(0, 1, 1)).count(4).is(1);
        of(12, box(0, 11, 1)).count(4).is(11);
        of(12, box(0, 6, 6)).count(4).is(36);
        of(12, box(0, 6, 6), box(0, 5, 3)).count(4).is(51);
    }

    private static void greatest() {
        // 2 by 3 and 3 by 2 on one CORNER: the least a.
        fresh(5).greatestIs(6, 0, 2, 3);
        // On each of six CORNERS 1 by 1: the least CORNER.
        of(4, box(0, 2, 2)).ways().is(6).greatestIs(1, 0, 1, 1);
        // 2 by 1 on CORNER 0, 1 by 2 on CORNER 4: the CORNER is asked before a.
        of(5, box(0, 3, 2)).why(4, 1, 2).is(0).greatestIs(2, 0, 2, 1);
        // A greater SIZE on a greater CORNER: 3 by 3 on CORNER 2, while CORNER 0 has no room.
        of(7, box(0, 1, 6)).greatestIs(9, 2, 3, 3);
        // The last that can be.
        of(4, box(0, 2, 2), box(0, 1, 1), box(4, 1, 1)).ways().is(1).greatestIs(1, 2, 1, 1);
        fresh(4).greatestIs(4, 0, 2, 2);
        fresh(12).greatestIs(36, 0, 6, 6);
    }

    private static void bestTwo() {
        // 2 by 2, then 1 by 1 in it or beside it.
        fresh(4).two().is(5);
        // 6 by 6, then 5 by 5 in it.
        fresh(12).two().is(61);
        // GREATEST is 3 by 3, and 2 can be behind it; but 2 by 4, then 2 by 2 beside it, are more.
        of(6, box(0, 1, 2)).greatest(0).is(9).two().is(12);
        // The first goes as far as REACH: 3 by 2 on CORNER 2; then 2 by 2 can be on CORNER 4, whose REACH grew by it.
        of(6, box(0, 1, 2), box(2, 2, 1)).reachIs(2, 5, 2).greatestIs(6, 2, 3, 2).why(4, 2, 2).is(1).two().is(10);
        of(6, box(0, 2, 1), box(4, 1, 2)).reachIs(4, 2, 5).greatestIs(6, 4, 2, 3).why(2, 2, 2).is(1).two().is(10);
        // Behind the only one that can be there is none: it alone.
        of(4, box(0, 2, 2), box(0, 1, 1), box(4, 1, 1)).two().is(1);
        // Behind the sixth none can be, though there is room.
        ask(Cards.comb(5)).greatest(0).is(2).two().is(2).put(22, 1, 2).is(14).why(27, 1, 1).is(0);
        // The fifth and the sixth: 2 by 2, then 1 by 1 in it.
        ask(Cards.comb(4)).greatest(0).is(4).two().is(5);
    }

    // ---- STEPS

    private static void steps(Sentences document) {
        document.names("STEPS of opening are 0 (shut) to 10 (flat); each has a c and an s: 0: 25 and 0; 1: 24 and 7; 2: 20"
                + " and 15; 3: 15 and 20; 4: 7 and 24; 5: 0 and 25; 6: -7 and 24; 7: -15 and 20; 8: -20 and 15; 9: -24 and"
                + " 7; 10: -25 and 0.", BoundariesOfTermsTest::eachStep);
        document.names("At a STEP a PLACE is at ACROSS, 25 p and c q, added, and at UP, s q: both in 25ths.",
                BoundariesOfTermsTest::placesOpened);
        document.names("FACES lie straight between.", BoundariesOfTermsTest::straight);
        document.names("ABOVE an ACROSS (in 25ths) at a STEP: of all FACES of which some point is there, that with the"
                + " point that is highest UP;", BoundariesOfTermsTest::highest);
        document.names("of several as high the one with the least number.", BoundariesOfTermsTest::leastOfSeveral);
    }

    private static void eachStep() {
        Asked x = of(4, box(0, 1, 2));
        for (int step : new int[] {Cards.LOW, -1, 11, Cards.HIGH}) {
            x.view(step, 0).is(OUTSIDE).above(step, 0, 0).is(OUTSIDE).apart(2, 3, step).is(OUTSIDE);
        }
        // From (1, 0) to (0, 2): 25 less 2 c, and 2 s, each multiplied by itself.
        int[] apart = {625, 725, 1125, 1625, 2425, 3125, 3825, 4625, 5125, 5525, 5625};
        int[] least = {0, 0, 0, 0, 0, 0, -28, -60, -80, -96, -100};
        int[] highest = {0, 28, 60, 80, 96, 100, 96, 80, 60, 28, 0};
        for (int step = 0; step <= 10; step++) {
            x.apart(2, 3, step).is(apart[step]);
            x.view(step, 0).is(1000 + least[step]).view(step, 1).is(1100);
            x.view(step, 2).is(1000 + highest[step]).view(step, 3).is(1000);
        }
    }

    private static void placesOpened() {
        // (11, 0) and (0, 11): as far along one page as along the other.
        Asked x = of(12, box(0, 11, 1), box(4, 1, 10));
        x.faceIs(2, 1, 11, 0, 1).faceIs(5, 0, 0, 11, 1);
        x.apart(2, 5, 0).is(0).apart(2, 5, 5).is(151250).apart(2, 5, 10).is(302500);
        x.apart(0, 2, 0).is(75625).apart(0, 2, 10).is(75625).apart(0, 5, 0).is(75625).apart(0, 5, 10).is(75625);
    }

    private static void straight() {
        // FACE 1 at STEP 3 goes 20 up for each 15 across, from (0, 0) to (60, 80).
        Asked x = fresh(4);
        x.aboveIs(3, 1, 1, 4, 3).aboveIs(3, 30, 1, 40, 1).aboveIs(3, 59, 1, 236, 3).aboveIs(3, 60, 1, 80, 1);
        x.aboveIs(3, 61, 0, 0, 1);
        // To the other side at STEP 7.
        x.aboveIs(7, -1, 1, 4, 3).aboveIs(7, -59, 1, 236, 3).aboveIs(7, -60, 1, 80, 1).nothingAbove(7, -61);
        // A FACE ALONG p stays level: FACE 3 at STEP 3, over 30 to 55, 40 up.
        of(4, box(0, 1, 2)).aboveIs(3, 30, 1, 40, 1).aboveIs(7, -30, 1, 40, 1).aboveIs(7, -29, 3, 40, 1)
                .aboveIs(7, -6, 3, 40, 1).aboveIs(7, -5, 2, 40, 1).aboveIs(7, -4, 2, 116, 3);
    }

    private static void highest() {
        // Upright, over 100: FACE 2 ends 100 up, FACE 4 begins there and ends 150 up.
        Asked x = of(12, box(0, 4, 4), box(4, 4, 2));
        x.aboveIs(5, 100, 4, 150, 1).aboveIs(5, 99, 5, 150, 1).aboveIs(5, 101, 0, 0, 1);
        x.aboveIs(5, 0, 1, 300, 1).aboveIs(5, 1, 5, 150, 1).nothingAbove(5, -1);
        x.aboveIs(5, 300, 0, 0, 1).nothingAbove(5, 301);
        // At STEP 4 FACE 1 is over 0 to 84; FACE 5, 144 up over 42 to 142, is higher only behind that.
        x.aboveIs(4, 84, 1, 288, 1).aboveIs(4, 85, 5, 144, 1).aboveIs(4, 142, 4, 144, 1).aboveIs(4, 143, 0, 0, 1);
    }

    private static void leastOfSeveral() {
        // Shut or flat all is 0 up.
        Asked x = of(12, box(0, 4, 4), box(4, 4, 2));
        x.aboveIs(0, 0, 0, 0, 1).aboveIs(0, 200, 0, 0, 1).aboveIs(0, 300, 0, 0, 1).nothingAbove(0, 301).nothingAbove(0, -1);
        x.aboveIs(10, 0, 0, 0, 1).aboveIs(10, -1, 1, 0, 1).aboveIs(10, -300, 1, 0, 1).nothingAbove(10, -301);
        x.aboveIs(10, 300, 0, 0, 1).nothingAbove(10, 301);
        // Where FACES meet, at STEP 6: 1 and 5 at (0, 6), 4 and 5 at (4, 6), 2 to 4 at (4, 4).
        x.aboveIs(6, -42, 1, 144, 1).aboveIs(6, -41, 5, 144, 1).aboveIs(6, 58, 4, 144, 1).aboveIs(6, 72, 2, 96, 1);
        Asked y = of(12, box(0, 4, 4));
        y.aboveIs(6, -28, 1, 96, 1).aboveIs(6, -27, 3, 96, 1).aboveIs(6, 71, 3, 96, 1).aboveIs(6, 72, 2, 96, 1);
        // Over 0 at STEP 8 FACES 0 and 1 are as high.
        fresh(8).aboveIs(8, 0, 0, 0, 1);
    }
}
