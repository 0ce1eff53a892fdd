import java.util.List;
import java.util.function.Supplier;

/**
 * Promises 1 to 17 of the document, sentence by sentence: each that names a boundary case has a test of its
 * own. Answers are worked out by hand.
 */
public final class BoundariesOfPromisesTest {
    private static final int UNKNOWN = -1, OUTSIDE = -2, STATE = -3, FULL = -4, NO = -5, NONE = -6;
    private static final int LOW = Cards.LOW, HIGH = Cards.HIGH;
    /** 'What it is' and 'Terms' are told by BoundariesOfTermsTest, 'The public face' by LanguageTest. */
    private static final List<String> PARTS = List.of("## What it is", "## The public face", "## Terms",
            "## Promise 1: A new object", "## Promise 2: size", "## Promise 3: put", "## Promise 4: off",
            "## Promise 5: why", "## Promise 6: corner", "## Promise 7: face", "## Promise 8: on", "## Promise 9: ways",
            "## Promise 10: greatest", "## Promise 11: two", "## Promise 12: view", "## Promise 13: above",
            "## Promise 14: apart", "## Promise 15: image", "## Promise 16: restore", "## Promise 17: count",
            "## Not promised");
    private static final Due DUE = new Due();

    private BoundariesOfPromisesTest() {
    }

    public static void main(String[] args) throws Exception {
        Sentences document = new Sentences(DUE);
        boxes(document);
        parts(document);
        whatCanBe(document);
        opened(document);
        images(document);
        notPromised(document);
        document.end();
        document.partsAre(PARTS);
        numbersAtTheirEnds();
        DUE.end("BoundariesOfPromisesTest");
    }

    private static Asked ask(HingeCards x) {
        return new Asked(DUE, x);
    }

    private static Asked fresh(int pages) {
        return ask(Cards.pages(pages));
    }

    private static Asked of(int pages, int[]... boxes) {
        return ask(Cards.of(pages, boxes));
    }

    private static int[] box(int corner, int a, int b) {
        return Cards.box(corner, a, b);
    }

    /** BOXES, FACES, CORNERS, LONG, SIZES, PLACES, IMAGES. */
    private static void countsAre(Asked x, int... want) {
        for (int what = 0; what < want.length; what++) x.count(what).is(want[what]);
    }

    // ---- promises 1 to 5

    private static void boxes(Sentences document) {
        document.part("## Promise 1: A new object");
        document.names("`HingeCards()`: A card without BOXES; no IMAGE is kept.", BoundariesOfPromisesTest::newObject);

        document.part("## Promise 2: size");
        document.names("LONG is v: which it was.", BoundariesOfPromisesTest::sizeTellsWhichItWas);
        document.names("OUTSIDE;", BoundariesOfPromisesTest::sizeOutside);
        document.names("STATE: there is a BOX.", BoundariesOfPromisesTest::sizeWithABox);

        document.part("## Promise 3: put");
        document.names("A BOX is put on a CORNER: how many FACES there are.", BoundariesOfPromisesTest::putCountsFaces);
        document.names("UNKNOWN;", BoundariesOfPromisesTest::putUnknown);
        document.names("OUTSIDE: a, b are not 1 to 12;", BoundariesOfPromisesTest::putOutside);
        document.names("FULL: there are 6;", BoundariesOfPromisesTest::putFull);
        document.names("NO: it can not be.", BoundariesOfPromisesTest::putNo);

        document.part("## Promise 4: off");
        document.names("The last BOX goes, with its FACES and CORNERS: how many BOXES are left.",
                BoundariesOfPromisesTest::offTakesAll);
        document.names("STATE: there is none.", BoundariesOfPromisesTest::offWithout);

        document.part("## Promise 5: why");
        document.names("Why a BOX can not be (1 to 3);", BoundariesOfPromisesTest::whyNot);
        document.names("0: it can (be there 6 already or not).", BoundariesOfPromisesTest::whyOfAFullCard);
        document.names("UNKNOWN;", BoundariesOfPromisesTest::whyUnknown);
        document.names("OUTSIDE: a, b are not 1 to 12.", BoundariesOfPromisesTest::whyOutside);
    }

    private static void newObject() {
        countsAre(ask(new HingeCards()), 0, 2, 1, 8, 0, 17, 0);
        ask(new HingeCards()).off().is(STATE).restore(0).is(STATE).restore(1).is(STATE);
        // Objects have nothing in common.
        HingeCards other = Cards.of(12, box(0, 6, 6));
        other.image(0);
        other.image(1);
        Asked x = ask(new HingeCards());
        countsAre(x, 0, 2, 1, 8, 0, 17, 0);
        x.restore(0).is(STATE).restore(1).is(STATE).why(0, 4, 4).is(0).on(6, 1).is(0);
    }

    private static void sizeTellsWhichItWas() {
        Asked x = ask(new HingeCards());
        x.size(8).is(8).size(4).is(8).size(4).is(4).size(12).is(4).size(12).is(12).size(4).is(12).count(3).is(4);
        // What was longer is gone with it.
        x.on(4, 0).is(1).on(5, 0).is(0).on(0, 12).is(0).why(0, 5, 1).is(1).count(5).is(9);
    }

    private static void sizeOutside() {
        Asked x = fresh(4);
        for (int v : new int[] {LOW, -8, -1, 0, 1, 3, 13, 14, HIGH}) x.size(v).is(OUTSIDE).count(3).is(4);
    }

    private static void sizeWithABox() {
        Asked x = of(4, box(0, 2, 2));
        for (int v = 4; v <= 12; v++) x.size(v).is(STATE);
        x.count(3).is(4).image(0).is(1).off().is(0).size(5).is(4);
        // A BOX that came by an IMAGE is one, and one that went by an IMAGE is none.
        x.image(1).is(1).restore(0).is(1).size(6).is(STATE).count(3).is(4).restore(1).is(1).size(6).is(5);
        ask(Cards.full()).size(8).is(STATE);
    }

    private static void putCountsFaces() {
        Asked x = fresh(8);
        x.count(1).is(2).put(0, 1, 7).is(4);
        for (int i = 1; i <= 5; i++) x.put(5 * i - 3, 1, 7 - i).is(4 + 2 * i).count(1).is(4 + 2 * i);
    }

    private static void putUnknown() {
        Asked x = fresh(8);
        for (int k : new int[] {LOW, -1, 1, 2, HIGH}) x.put(k, 1, 1).is(UNKNOWN);
        // The newest CORNER is known, the one behind it is not; when the BOX goes its CORNERS are not.
        x.put(0, 4, 4).is(4).put(6, 1, 1).is(UNKNOWN).put(5, 1, 1).is(6).off().is(1).off().is(0).put(5, 1, 1).is(UNKNOWN);
        ask(Cards.full()).put(31, 1, 1).is(UNKNOWN).put(30, 1, 1).is(FULL);
    }

    private static void putOutside() {
        Asked x = fresh(12);
        for (int n : new int[] {LOW, -1, 0, 13, HIGH}) x.put(0, n, 1).is(OUTSIDE).put(0, 1, n).is(OUTSIDE);
        for (int n : new int[] {1, 11}) x.put(0, n, 1).is(4).off().is(0).put(0, 1, n).is(4).off().is(0);
        x.put(0, 12, 1).is(NO).put(0, 1, 12).is(NO);
    }

    private static void putFull() {
        Asked x = ask(Cards.comb(5));
        x.put(22, 1, 2).is(14).put(27, 1, 1).is(FULL).put(0, 12, 12).is(FULL).count(0).is(6);
        x.off().is(5).put(22, 1, 1).is(14).put(22, 1, 1).is(FULL);
        // Full by an IMAGE too.
        x.image(0).is(1).off().is(5).off().is(4).restore(0).is(1).put(27, 1, 1).is(FULL);
    }

    private static void putNo() {
        Asked x = of(8, box(0, 4, 3));
        x.put(5, 5, 1).is(NO).put(2, 2, 3).is(NO).put(0, 4, 2).is(NO);
        countsAre(x, 1, 4, 6, 8, 12, 23, 0);
        x.put(5, 3, 2).is(6);
    }

    private static void offTakesAll() {
        Asked x = of(8, box(0, 4, 4), box(1, 2, 3));
        countsAre(x, 2, 6, 11, 8, 22, 28, 0);
        x.off().is(1);
        countsAre(x, 1, 4, 6, 8, 16, 24, 0);
        x.face(3, 3).is(4).face(4, 0).is(UNKNOWN).corner(5, 0).is(104).corner(6, 0).is(UNKNOWN);
        x.apart(3, 4, 0).is(UNKNOWN).apart(4, 3, 0).is(UNKNOWN).why(6, 1, 1).is(UNKNOWN);
        // Of the FACES that went, X and Y lie on others.
        x.on(2, 0).is(1).on(4, 3).is(1).on(2, 1).is(0).on(2, 3).is(0).on(3, 3).is(0);
        x.off().is(0);
        countsAre(x, 0, 2, 1, 8, 0, 17, 0);
        Supplier<HingeCards> emptied = Cards.after(Cards::full, y -> {
            for (int i = 0; i < 6; i++) y.off();
        });
        DUE.holds("six BOXES came and went", Cards.told(emptied).equals(Cards.told(HingeCards::new)));
    }

    private static void offWithout() {
        Asked x = ask(new HingeCards());
        x.off().is(STATE).image(0).is(1).put(0, 1, 1).is(4).off().is(0).off().is(STATE);
        x.put(0, 1, 1).is(4).restore(0).is(1).off().is(STATE).count(0).is(0);
    }

    private static void whyNot() {
        Asked x = of(8, box(0, 4, 3));
        x.why(5, 5, 1).is(1).why(2, 2, 3).is(2).why(0, 4, 2).is(3).why(5, 3, 2).is(0);
        // It is asked, not put.
        countsAre(x, 1, 4, 6, 8, 12, 23, 0);
    }

    private static void whyOfAFullCard() {
        Asked x = ask(Cards.full());
        x.why(27, 1, 1).is(0).put(27, 1, 1).is(FULL).why(27, 1, 2).is(2).why(27, 1, 3).is(1).why(0, 1, 1).is(3);
        x.off().is(5).why(22, 1, 2).is(0);
    }

    private static void whyUnknown() {
        Asked x = fresh(8);
        for (int k : new int[] {LOW, -1, 1, HIGH}) x.why(k, 1, 1).is(UNKNOWN);
        ask(Cards.full()).why(30, 1, 1).is(3).why(31, 1, 1).is(UNKNOWN);
    }

    private static void whyOutside() {
        Asked x = fresh(12);
        for (int n : new int[] {LOW, -1, 0, 13, HIGH}) x.why(0, n, 1).is(OUTSIDE).why(0, 1, n).is(OUTSIDE);
        x.why(0, 1, 1).is(0).why(0, 12, 1).is(2).why(0, 1, 12).is(2).why(0, 12, 12).is(2);
    }

    // ---- promises 6 to 8

    private static void parts(Sentences document) {
        document.part("## Promise 6: corner");
        document.names("Of a CORNER: p and 100, added (what = 0), q and 100, added (1), u and 1, added (2), v and 1, added"
                + " (3), REACH ALONG p (4), ALONG q (5).", BoundariesOfPromisesTest::cornerTells);
        document.names("UNKNOWN;", BoundariesOfPromisesTest::cornerUnknown);
        document.names("OUTSIDE.", BoundariesOfPromisesTest::cornerOutside);

        document.part("## Promise 7: face");
        document.names("Of a FACE: whether it is ALONG p (what = 0: 0) or ALONG q (1); p (1), q (2) of its end of which p"
                + " and q, added, are less, with 100 added to each; how long it is (3).",
                BoundariesOfPromisesTest::faceTells);
        document.names("UNKNOWN;", BoundariesOfPromisesTest::faceUnknown);
        document.names("OUTSIDE.", BoundariesOfPromisesTest::faceOutside);

        document.part("## Promise 8: on");
        document.names("On how many FACES a PLACE lies.", BoundariesOfPromisesTest::onTells);
        document.names("OUTSIDE: p, q are not -12 to 12.", BoundariesOfPromisesTest::onOutside);
    }

    private static void cornerTells() {
        // The least of each: p and q 0, signs -1, REACH 0.
        Asked x = of(12, box(0, 4, 4), box(4, 4, 2), box(2, 2, 4));
        x.cornerIs(0, 0, 0, 1, 1).reachIs(0, 12, 12).cornerIs(5, 4, 4, -1, -1).reachIs(5, 4, 4);
        // CORNERS 7 and 14 are both (4, 4) with 1 and 1; FACES of both newer BOXES meet there.
        x.cornerIs(7, 4, 4, 1, 1).reachIs(7, 2, 2).cornerIs(14, 4, 4, 1, 1).reachIs(14, 2, 2);
        x.off().is(2).reachIs(7, 0, 2);
    }

    private static void cornerUnknown() {
        Asked x = fresh(8);
        for (int k : new int[] {LOW, -1, 1, HIGH}) x.corner(k, 0).is(UNKNOWN).corner(k, 5).is(UNKNOWN);
        x.put(0, 1, 1).is(4).corner(5, 0).is(101).corner(6, 0).is(UNKNOWN).off().is(0).corner(1, 0).is(UNKNOWN);
        ask(Cards.full()).corner(30, 0).is(106).corner(31, 0).is(UNKNOWN);
    }

    private static void cornerOutside() {
        Asked x = fresh(8);
        for (int what : new int[] {LOW, -1, 6, HIGH}) x.corner(0, what).is(OUTSIDE);
        x.corner(0, 0).is(100).corner(0, 5).is(8);
    }

    private static void faceTells() {
        // Z is the end that is told where u or v is -1; the shortest is 1, the longest LONG.
        of(12, box(0, 4, 4), box(5, 3, 1)).faceIs(4, 1, 1, 3, 1).faceIs(5, 0, 1, 3, 3).faceIs(0, 0, 0, 0, 12);
        of(4, box(0, 1, 1)).faceIs(2, 1, 1, 0, 1).faceIs(3, 0, 0, 1, 1).faceIs(1, 1, 0, 0, 4);
    }

    private static void faceUnknown() {
        Asked x = fresh(8);
        for (int f : new int[] {LOW, -1, 2, HIGH}) x.face(f, 0).is(UNKNOWN).face(f, 3).is(UNKNOWN);
        x.put(0, 1, 1).is(4).face(3, 0).is(0).face(4, 0).is(UNKNOWN).off().is(0).face(2, 0).is(UNKNOWN);
        ask(Cards.full()).face(13, 0).is(0).face(14, 0).is(UNKNOWN);
    }

    private static void faceOutside() {
        Asked x = fresh(8);
        for (int what : new int[] {LOW, -1, 4, HIGH}) x.face(1, what).is(OUTSIDE);
        x.face(1, 0).is(1).face(1, 3).is(8);
    }

    private static void onTells() {
        Asked x = of(12, box(0, 4, 4), box(4, 4, 2), box(2, 2, 4));
        x.on(3, 3).is(0).on(4, 3).is(1).on(4, 0).is(2).on(4, 4).is(4).off().is(2).on(4, 4).is(3);
        x.off().is(1).on(4, 4).is(2).off().is(0).on(4, 4).is(0).on(0, 0).is(2);
    }

    private static void onOutside() {
        Asked x = fresh(12);
        for (int n : new int[] {LOW, -13, 13, HIGH}) x.on(n, 0).is(OUTSIDE).on(0, n).is(OUTSIDE).on(n, n).is(OUTSIDE);
        x.on(12, 0).is(1).on(0, 12).is(1).on(12, 12).is(0).on(-12, 0).is(0).on(0, -12).is(0).on(-12, -12).is(0);
        x.on(-12, 12).is(0).on(12, -12).is(0);
        // Not OUTSIDE where p and q are beyond LONG.
        fresh(4).on(4, 0).is(1).on(5, 0).is(0).on(12, 0).is(0).on(0, 12).is(0);
    }

    // ---- promises 9 to 11

    private static void whatCanBe(Sentences document) {
        document.part("## Promise 9: ways");
        document.names("How many BOXES can be now, on all CORNERS (0, if there are 6).", BoundariesOfPromisesTest::ways);

        document.part("## Promise 10: greatest");
        document.names("GREATEST: SIZE (what = 0), its CORNER (1), a (2), b (3);", BoundariesOfPromisesTest::greatestTells);
        document.names("NONE: none can be, or there are 6.", BoundariesOfPromisesTest::greatestNone);
        document.names("OUTSIDE.", BoundariesOfPromisesTest::greatestOutside);

        document.part("## Promise 11: two");
        document.names("BEST TWO;", BoundariesOfPromisesTest::twoTells);
        document.names("NONE: no BOX can be, or there are 6.", BoundariesOfPromisesTest::twoNone);
    }

    private static void ways() {
        // On CORNER 0 all with a and b, added, up to LONG.
        for (int v = 4; v <= 12; v++) fresh(v).ways().is(v * (v - 1) / 2);
        ask(Cards.full()).why(27, 1, 1).is(0).ways().is(0).off().is(5).ways().is(3);
        ask(Cards.stuck()).ways().is(0).count(0).is(4);
        of(4, box(0, 2, 2), box(0, 1, 1), box(4, 1, 1)).ways().is(1);
        // CORNERS 7 and 14 are both (4, 4) with 1 and 1: a BOX on the one is not that on the other.
        Asked x = of(12, box(0, 4, 4), box(4, 4, 2), box(2, 2, 4));
        x.why(7, 2, 2).is(0).why(14, 2, 2).is(0);
        HingeCards same = Cards.of(12, box(0, 4, 4), box(4, 4, 2), box(2, 2, 4));
        int all = 0;
        for (int k = 0; k <= 15; k++) all += waysOn(k);
        DUE.is("ways() of all CORNERS", same.ways(), all);
    }

    /** Asked BOX by BOX of a card of its own, for an object is used for 512 calls. */
    private static int waysOn(int k) {
        HingeCards x = Cards.of(12, box(0, 4, 4), box(4, 4, 2), box(2, 2, 4));
        int n = 0;
        for (int a = 1; a <= 12; a++) for (int b = 1; b <= 12; b++) if (x.why(k, a, b) == 0) n++;
        return n;
    }

    private static void greatestTells() {
        fresh(4).greatestIs(4, 0, 2, 2);
        fresh(11).greatestIs(30, 0, 5, 6);
        fresh(12).greatestIs(36, 0, 6, 6);
        ask(Cards.comb(5)).greatestIs(2, 22, 1, 2);
    }

    private static void greatestNone() {
        for (Asked x : List.of(ask(Cards.full()), ask(Cards.stuck()))) {
            for (int what = 0; what <= 3; what++) x.greatest(what).is(NONE);
        }
        // What was told before must not be told again.
        HingeCards told = Cards.comb(5);
        ask(told).greatest(0).is(2).put(22, 1, 2).is(14).greatest(0).is(NONE).greatest(1).is(NONE).off().is(5)
                .greatest(1).is(22);
    }

    private static void greatestOutside() {
        for (Asked x : List.of(fresh(8), ask(Cards.full()), ask(Cards.stuck()))) {
            for (int what : new int[] {LOW, -1, 4, HIGH}) x.greatest(what).is(OUTSIDE);
        }
    }

    private static void twoTells() {
        fresh(4).two().is(5);
        fresh(8).two().is(25);
        ask(Cards.comb(5)).two().is(2);
        of(4, box(0, 2, 2), box(0, 1, 1), box(4, 1, 1)).two().is(1);
    }

    private static void twoNone() {
        ask(Cards.full()).two().is(NONE).off().is(5).two().is(2);
        ask(Cards.stuck()).two().is(NONE).count(0).is(4).off().is(3).two().is(1);
    }

    // ---- promises 12 to 14

    private static void opened(Sentences document) {
        document.part("## Promise 12: view");
        document.names("At a STEP: the least ACROSS of any PLACE of a FACE, 1000 added (what = 0), the greatest, 1000 added"
                + " (1), the greatest UP, 1000 added (2), the least UP, 1000 added (3).",
                BoundariesOfPromisesTest::viewTells);
        document.names("OUTSIDE: both.", BoundariesOfPromisesTest::viewOutside);

        document.part("## Promise 13: above");
        document.names("ABOVE an ACROSS, -600 to 600, at a STEP: the FACE (what = 0), how high UP that point is, in 25ths, as"
                + " a fraction in lowest terms: the upper number, 100000 added (1), the lower one, above 0 (2);",
                BoundariesOfPromisesTest::aboveTells);
        document.names("NONE: no FACE is there.", BoundariesOfPromisesTest::aboveNone);
        document.names("OUTSIDE.", BoundariesOfPromisesTest::aboveOutside);

        document.part("## Promise 14: apart");
        document.names("Of two FACES at a STEP: how far the first PLACE (that of which p and q, added, are less) of the one"
                + " is from that of the other one, ACROSS and UP, each multiplied by itself, added.",
                BoundariesOfPromisesTest::apartTells);
        document.names("UNKNOWN: both;", BoundariesOfPromisesTest::apartUnknown);
        document.names("OUTSIDE: the STEP.", BoundariesOfPromisesTest::apartOutside);
    }

    private static void viewTells() {
        // Shut: all from 0 on. Upright: page 1 is highest. Flat: page 1 as far to the other side.
        fresh(12).view(0, 0).is(1000).view(0, 1).is(1300).view(0, 2).is(1000).view(0, 3).is(1000);
        fresh(12).view(5, 0).is(1000).view(5, 1).is(1300).view(5, 2).is(1300).view(5, 3).is(1000);
        fresh(12).view(10, 0).is(700).view(10, 1).is(1300).view(10, 2).is(1000).view(10, 3).is(1000);
        fresh(4).view(0, 1).is(1100).view(5, 2).is(1100).view(10, 0).is(900).view(6, 0).is(972).view(4, 0).is(1000);
        // Z as far out as can be comes as far as the pages, and no farther.
        of(12, box(0, 6, 6)).view(0, 1).is(1300).view(1, 1).is(1300).view(9, 0).is(712).view(5, 2).is(1300);
    }

    private static void viewOutside() {
        Asked x = fresh(8);
        for (int step : new int[] {LOW, -1, 11, HIGH}) for (int what = 0; what <= 3; what++) x.view(step, what).is(OUTSIDE);
        for (int what : new int[] {LOW, -1, 4, HIGH}) for (int step = 0; step <= 10; step++) x.view(step, what).is(OUTSIDE);
        x.view(-1, -1).is(OUTSIDE).view(11, 4).is(OUTSIDE);
    }

    private static void aboveTells() {
        Asked x = fresh(12);
        // 0 is 0 / 1; 7 / 24 is in lowest terms, 14 / 24 is not, 168 / 24 is 7 / 1.
        x.aboveIs(1, 0, 0, 0, 1).aboveIs(1, 1, 1, 7, 24).aboveIs(1, 2, 1, 7, 12).aboveIs(1, 24, 1, 7, 1);
        x.aboveIs(1, 287, 1, 2009, 24).aboveIs(1, 288, 1, 84, 1).aboveIs(1, 289, 0, 0, 1);
        // The lower number is above 0 where c is below.
        x.aboveIs(9, -1, 1, 7, 24).aboveIs(9, -287, 1, 2009, 24).aboveIs(9, -288, 1, 84, 1);
        x.aboveIs(6, -7, 1, 24, 1).aboveIs(6, -8, 1, 192, 7).aboveIs(8, -5, 1, 15, 4).aboveIs(8, -4, 1, 3, 1);
        // Shut and flat: 0 up, over FACE 1 alone too.
        x.aboveIs(0, 300, 0, 0, 1).aboveIs(10, -300, 1, 0, 1).aboveIs(10, -13, 1, 0, 1);
        x.aboveIs(5, 0, 1, 300, 1);
    }

    private static void aboveNone() {
        Asked x = fresh(12);
        x.aboveIs(0, 300, 0, 0, 1).nothingAbove(0, 301).nothingAbove(0, -1);
        x.aboveIs(10, -300, 1, 0, 1).nothingAbove(10, -301).nothingAbove(10, 301);
        x.aboveIs(9, -288, 1, 84, 1).nothingAbove(9, -289).nothingAbove(5, -1).nothingAbove(4, -1);
        for (int step = 0; step <= 10; step++) x.nothingAbove(step, -600).nothingAbove(step, 600);
    }

    private static void aboveOutside() {
        Asked x = fresh(8);
        for (int step : new int[] {LOW, -1, 11, HIGH}) x.above(step, 0, 0).is(OUTSIDE).above(step, 600, 0).is(OUTSIDE);
        for (int n : new int[] {LOW, -601, 601, HIGH}) x.above(0, n, 0).is(OUTSIDE).above(10, n, 2).is(OUTSIDE);
        for (int what : new int[] {LOW, -1, 3, HIGH}) x.above(0, 0, what).is(OUTSIDE).above(0, 600, what).is(OUTSIDE);
        x.above(0, -600, 0).is(NONE).above(0, 600, 2).is(NONE);
    }

    private static void apartTells() {
        Asked x = of(12, box(0, 4, 4), box(5, 3, 1));
        // FACE 4 is from (1, 3) to (1, 4), FACE 5 from (1, 3) to (4, 3): both begin at Z.
        x.apart(4, 5, 3).is(0).apart(0, 4, 5).is(6250).apart(4, 0, 5).is(6250).apart(4, 4, 7).is(0);
        x.apart(0, 1, 0).is(0).apart(0, 1, 10).is(0).apart(0, 4, 0).is(10000).apart(0, 4, 10).is(2500);
        of(12, box(0, 11, 1), box(4, 1, 10)).apart(2, 5, 10).is(302500).apart(5, 2, 10).is(302500).apart(2, 5, 0).is(0);
    }

    private static void apartUnknown() {
        Asked x = fresh(8);
        for (int f : new int[] {LOW, -1, 2, HIGH}) x.apart(f, 0, 0).is(UNKNOWN).apart(0, f, 0).is(UNKNOWN).apart(f, f, 0).is(UNKNOWN);
        x.put(0, 1, 1).is(4).apart(3, 3, 0).is(0).apart(4, 3, 0).is(UNKNOWN).apart(3, 4, 0).is(UNKNOWN);
        ask(Cards.full()).apart(13, 13, 0).is(0).apart(14, 13, 0).is(UNKNOWN).apart(13, 14, 0).is(UNKNOWN);
    }

    private static void apartOutside() {
        Asked x = of(8, box(0, 3, 2));
        for (int step : new int[] {LOW, -1, 11, HIGH}) x.apart(2, 3, step).is(OUTSIDE).apart(0, 0, step).is(OUTSIDE);
        x.apart(2, 3, 0).is(625).apart(2, 3, 10).is(15625);
    }

    // ---- promises 15 to 17

    private static void images(Sentences document) {
        document.part("## Promise 15: image");
        document.names("All but IMAGES is kept in an IMAGE (0, 1), in place of what was kept there: 1.",
                BoundariesOfPromisesTest::imageKeeps);
        document.names("OUTSIDE.", BoundariesOfPromisesTest::imageOutside);

        document.part("## Promise 16: restore");
        document.names("All but IMAGES is as it was when it was kept; the IMAGE stays: 1.",
                BoundariesOfPromisesTest::restoreBrings);
        document.names("OUTSIDE;", BoundariesOfPromisesTest::restoreOutside);
        document.names("STATE: nothing was kept in it.", BoundariesOfPromisesTest::restoreWithout);

        document.part("## Promise 17: count");
        document.names("BOXES (0), FACES (1), CORNERS (2), LONG (3), SIZES of all BOXES, added (4), PLACES that lie on some"
                + " FACE (5), which IMAGES are kept, a set: bits 0, 1 (6).", BoundariesOfPromisesTest::countTells);
        document.names("OUTSIDE.", BoundariesOfPromisesTest::countOutside);
    }

    private static void imageKeeps() {
        // An empty card and a full one, each in place of the other, in both IMAGES.
        for (int k = 0; k <= 1; k++) {
            int kept = k;
            DUE.holds("a full card in place of an empty one",
                    Cards.told(() -> fullByImage(kept)).equals(Cards.told(() -> keptIn(kept, Cards.full()))));
            Asked x = ask(Cards.full());
            x.image(k).is(1);
            for (int left = 5; left >= 0; left--) x.off().is(left);
            x.size(4).is(8).image(k).is(1).size(12).is(4).restore(k).is(1);
            countsAre(x, 0, 2, 1, 4, 0, 9, 1 << k);
            x.off().is(STATE).restore(1 - k).is(STATE);
        }
        // What changes later does not reach the IMAGE, and the other IMAGE is not touched.
        Asked y = of(10, box(0, 4, 3));
        y.image(0).is(1).put(2, 2, 2).is(6).image(1).is(1).off().is(1).off().is(0).size(4).is(10).image(0).is(1);
        y.restore(1).is(1);
        countsAre(y, 2, 6, 11, 10, 16, 30, 3);
    }

    private static HingeCards keptIn(int k, HingeCards x) {
        x.image(k);
        return x;
    }

    /** A card that was kept when it was empty, then when it was full, and came back from the IMAGE. */
    private static HingeCards fullByImage(int k) {
        HingeCards x = keptIn(k, new HingeCards());
        for (int i = 0; i < 6; i++) x.put(i == 0 ? 0 : 5 * i - 3, 1, 7 - i);
        x.image(k);
        for (int i = 0; i < 6; i++) x.off();
        x.size(12);
        x.restore(k);
        return x;
    }

    private static void imageOutside() {
        Asked x = fresh(8);
        for (int k : new int[] {LOW, -32, -1, 2, 3, 32, 33, HIGH}) x.image(k).is(OUTSIDE).count(6).is(0);
        x.image(0).is(1).count(6).is(1).image(1).is(1).count(6).is(3);
    }

    private static void restoreBrings() {
        Asked x = of(10, box(0, 4, 3));
        x.image(1).is(1).off().is(0).size(4).is(10);
        // Twice and more from one IMAGE, with changes between.
        for (int i = 0; i < 3; i++) {
            x.restore(1).is(1);
            countsAre(x, 1, 4, 6, 10, 12, 27, 2);
            x.faceIs(2, 1, 4, 0, 3).cornerIs(5, 4, 3, -1, -1).reachIs(2, 6, 3).why(0, 4, 3).is(3);
            x.put(0, 3, 2).is(6).put(0, 1, 1).is(8).off().is(2);
        }
        // What was kept last is what is, whatever came of an IMAGE before; IMAGES are not kept in IMAGES.
        x.image(0).is(1).count(6).is(3).restore(1).is(1).count(6).is(3).restore(0).is(1).count(0).is(2).count(4).is(18);
        // At once: nothing changes.
        Supplier<HingeCards> some = () -> keptIn(0, Cards.of(9, box(0, 4, 3), box(2, 1, 3)));
        DUE.holds("restore at once", Cards.told(some).equals(Cards.told(Cards.after(some, y -> y.restore(0)))));
        // The number of a BOX brought back goes on from there.
        ask(keptIn(0, Cards.comb(5))).off().is(4).restore(0).is(1).put(22, 1, 2).is(14).faceIs(12, 1, 6, 0, 2);
    }

    private static void restoreOutside() {
        Asked x = fresh(8);
        int[] wrong = {LOW, -32, -1, 2, 3, 32, 33, HIGH};
        for (int k : wrong) x.restore(k).is(OUTSIDE);
        x.image(0).is(1).image(1).is(1);
        for (int k : wrong) x.restore(k).is(OUTSIDE);
    }

    private static void restoreWithout() {
        Asked x = of(8, box(0, 3, 2));
        x.restore(0).is(STATE).restore(1).is(STATE).image(1).is(1).restore(0).is(STATE).restore(1).is(1).restore(0).is(STATE);
        countsAre(x, 1, 4, 6, 8, 6, 21, 2);
        of(8, box(0, 3, 2)).image(0).is(1).restore(1).is(STATE).restore(0).is(1).image(1).is(1).restore(1).is(1);
    }

    private static void countTells() {
        countsAre(fresh(4), 0, 2, 1, 4, 0, 9, 0);
        countsAre(fresh(12), 0, 2, 1, 12, 0, 25, 0);
        countsAre(ask(Cards.full()), 6, 14, 31, 8, 27, 44, 0);
        // A PLACE on several FACES is one PLACE.
        countsAre(of(12, box(0, 4, 4), box(4, 4, 2), box(2, 2, 4)), 3, 8, 16, 12, 32, 42, 0);
        Asked x = fresh(8);
        x.count(6).is(0).image(1).is(1).count(6).is(2).image(1).is(1).count(6).is(2).image(0).is(1).count(6).is(3);
    }

    private static void countOutside() {
        Asked x = fresh(8);
        for (int what : new int[] {LOW, -1, 7, HIGH}) x.count(what).is(OUTSIDE);
        x.count(0).is(0).count(6).is(0);
    }

    // ---- what is not promised

    private static void notPromised(Sentences document) {
        document.part("## Not promised");
        document.tell("How the state is held inside the object is free, as are the speed of each call, the text of toString"
                + " and the behaviour of equals and hashCode.");
        document.tell("Use of one object from several threads at once is not promised to be safe.");
        document.tell("Nothing is promised beyond the answers and state changes described above, and nothing about an"
                + " object after its 512th call.");
    }

    // ---- every number of every call, as small and as great as an int can be, and near it

    private static void numbersAtTheirEnds() {
        for (int n : new int[] {LOW, LOW + 1, HIGH - 1, HIGH, 1 << 30, -(1 << 30), 1 << 16, -(1 << 16), 256, -256, 1000}) {
            for (HingeCards card : List.of(new HingeCards(), Cards.of(12, box(0, 6, 6)), Cards.full())) {
                Asked x = ask(card);
                x.size(n).is(OUTSIDE).greatest(n).is(OUTSIDE).image(n).is(OUTSIDE).restore(n).is(OUTSIDE);
                x.count(n).is(OUTSIDE).on(n, 0).is(OUTSIDE).on(0, n).is(OUTSIDE).on(n, n).is(OUTSIDE);
                x.put(n, 1, 1).is(UNKNOWN).put(0, n, 1).is(OUTSIDE).put(0, 1, n).is(OUTSIDE).put(n, n, n).is(UNKNOWN);
                x.why(n, 1, 1).is(UNKNOWN).why(0, n, 1).is(OUTSIDE).why(0, 1, n).is(OUTSIDE).why(n, n, n).is(UNKNOWN);
                x.corner(n, 0).is(UNKNOWN).corner(0, n).is(OUTSIDE).corner(n, n).is(UNKNOWN);
                x.face(n, 0).is(UNKNOWN).face(0, n).is(OUTSIDE).face(n, n).is(UNKNOWN);
                x.view(n, 0).is(OUTSIDE).view(0, n).is(OUTSIDE).view(n, n).is(OUTSIDE);
                x.above(n, 0, 0).is(OUTSIDE).above(0, 0, n).is(OUTSIDE).above(n, n, n).is(OUTSIDE);
                x.above(0, Math.abs(n) == 256 ? 601 : n, 0).is(OUTSIDE);
                x.apart(n, 0, 0).is(UNKNOWN).apart(0, n, 0).is(UNKNOWN).apart(0, 1, n).is(OUTSIDE).apart(n, n, n).is(UNKNOWN);
            }
        }
    }
}
