import java.util.ArrayList;
import java.util.List;
import java.util.function.Consumer;
import java.util.function.Supplier;

/** Cards that the tests of the boundary cases look at, and all that a card tells. */
final class Cards {
    static final int LOW = Integer.MIN_VALUE, HIGH = Integer.MAX_VALUE;
    /** An object is used for 512 calls; some are kept for making it. */
    private static final int ASKED_OF_ONE = 400;

    private Cards() {
    }

    static HingeCards pages(int v) {
        HingeCards x = new HingeCards();
        x.size(v);
        return x;
    }

    /** Each BOX: CORNER, a, b. */
    static HingeCards of(int v, int[]... boxes) {
        HingeCards x = pages(v);
        for (int[] box : boxes) {
            if (x.put(box[0], box[1], box[2]) < 0) throw new IllegalStateException("a test's BOX can not be");
        }
        return x;
    }

    static int[] box(int corner, int a, int b) {
        return new int[] {corner, a, b};
    }

    /** LONG is 8, BOXES side by side on page 0, each one unit broad: 1 by 7, 1 by 6 and so on. */
    static HingeCards comb(int boxes) {
        int[][] rows = new int[boxes][];
        for (int i = 0; i < boxes; i++) rows[i] = box(i == 0 ? 0 : 5 * i - 3, 1, 7 - i);
        return of(8, rows);
    }

    static HingeCards full() {
        return comb(6);
    }

    /** LONG is 4, four BOXES, and no other can be. */
    static HingeCards stuck() {
        return of(4, box(0, 2, 2), box(0, 1, 1), box(2, 1, 1), box(4, 1, 1));
    }

    /** All that is told of a card as it is now; each object that is made is asked for fewer than 512 answers. */
    static List<Integer> told(Supplier<HingeCards> make) {
        Asker asker = new Asker(make);
        for (int what = 0; what <= 6; what++) {
            int w = what;
            asker.ask(x -> x.count(w));
        }
        asker.ask(HingeCards::ways);
        asker.ask(HingeCards::two);
        for (int what = 0; what <= 3; what++) {
            int w = what;
            asker.ask(x -> x.greatest(w));
        }
        toldOfParts(asker);
        toldOpened(asker);
        return asker.answers;
    }

    private static void toldOfParts(Asker asker) {
        for (int n = 0; n <= 31; n++) {
            for (int what = 0; what <= 5; what++) {
                int k = n, w = what;
                asker.ask(x -> x.corner(k, w));
                asker.ask(x -> x.face(k, w));
                asker.ask(x -> x.why(k, w + 1, 2));
                asker.ask(x -> x.why(k, 1, w + 1));
            }
        }
        for (int p = 0; p <= 12; p++) {
            for (int q = 0; q <= 12; q++) {
                int i = p, j = q;
                asker.ask(x -> x.on(i, j));
            }
        }
    }

    private static void toldOpened(Asker asker) {
        for (int step = 0; step <= 10; step++) {
            int s = step;
            for (int what = 0; what <= 3; what++) {
                int w = what;
                asker.ask(x -> x.view(s, w));
            }
            for (int f = 0; f <= 13; f++) {
                int face = f;
                asker.ask(x -> x.apart(face, 1, s));
                asker.ask(x -> x.apart(2, face, s));
            }
            for (int across = -310; across <= 310; across += 31) {
                int at = across;
                for (int what = 0; what <= 2; what++) {
                    int w = what;
                    asker.ask(x -> x.above(s, at, w));
                }
            }
        }
    }

    interface Call {
        int answer(HingeCards x);
    }

    /** The same card after one call more. */
    static Supplier<HingeCards> after(Supplier<HingeCards> make, Consumer<HingeCards> call) {
        return () -> {
            HingeCards x = make.get();
            call.accept(x);
            return x;
        };
    }

    private static final class Asker {
        private final Supplier<HingeCards> make;
        private final List<Integer> answers = new ArrayList<>();
        private HingeCards card;
        private int asked = ASKED_OF_ONE;

        Asker(Supplier<HingeCards> make) {
            this.make = make;
        }

        void ask(Call call) {
            if (asked == ASKED_OF_ONE) {
                card = make.get();
                asked = 0;
            }
            asked++;
            answers.add(call.answer(card));
        }
    }
}
