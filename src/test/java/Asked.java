/** A card whose answers are held against those that are due: asked.put(0, 3, 2).is(4). */
final class Asked {
    private final Due due;
    private final HingeCards card;

    Asked(Due due, HingeCards card) {
        this.due = due;
        this.card = card;
    }

    final class Answer {
        private final String call;
        private final int got;

        private Answer(int got, String name, int... arguments) {
            StringBuilder text = new StringBuilder(name).append('(');
            for (int i = 0; i < arguments.length; i++) text.append(i == 0 ? "" : ", ").append(arguments[i]);
            this.call = text.append(')').toString();
            this.got = got;
        }

        Asked is(int want) {
            due.is(call, got, want);
            return Asked.this;
        }
    }

    Answer size(int v) {
        return new Answer(card.size(v), "size", v);
    }

    Answer put(int corner, int a, int b) {
        return new Answer(card.put(corner, a, b), "put", corner, a, b);
    }

    Answer off() {
        return new Answer(card.off(), "off");
    }

    Answer why(int corner, int a, int b) {
        return new Answer(card.why(corner, a, b), "why", corner, a, b);
    }

    Answer corner(int corner, int what) {
        return new Answer(card.corner(corner, what), "corner", corner, what);
    }

    Answer face(int face, int what) {
        return new Answer(card.face(face, what), "face", face, what);
    }

    Answer on(int p, int q) {
        return new Answer(card.on(p, q), "on", p, q);
    }

    Answer ways() {
        return new Answer(card.ways(), "ways");
    }

    Answer greatest(int what) {
        return new Answer(card.greatest(what), "greatest", what);
    }

    Answer two() {
        return new Answer(card.two(), "two");
    }

    Answer view(int step, int what) {
        return new Answer(card.view(step, what), "view", step, what);
    }

    Answer above(int step, int across, int what) {
        return new Answer(card.above(step, across, what), "above", step, across, what);
    }

    Answer apart(int one, int other, int step) {
        return new Answer(card.apart(one, other, step), "apart", one, other, step);
    }

    Answer image(int k) {
        return new Answer(card.image(k), "image", k);
    }

    Answer restore(int k) {
        return new Answer(card.restore(k), "restore", k);
    }

    Answer count(int what) {
        return new Answer(card.count(what), "count", what);
    }

    /** Its PLACE, u and v. */
    Asked cornerIs(int k, int p, int q, int u, int v) {
        return corner(k, 0).is(p + 100).corner(k, 1).is(q + 100).corner(k, 2).is(u + 1).corner(k, 3).is(v + 1);
    }

    Asked reachIs(int k, int alongP, int alongQ) {
        return corner(k, 4).is(alongP).corner(k, 5).is(alongQ);
    }

    /** Along which it is, its first end, how long it is. */
    Asked faceIs(int f, int along, int p, int q, int length) {
        return face(f, 0).is(along).face(f, 1).is(p + 100).face(f, 2).is(q + 100).face(f, 3).is(length);
    }

    Asked greatestIs(int size, int corner, int a, int b) {
        return greatest(0).is(size).greatest(1).is(corner).greatest(2).is(a).greatest(3).is(b);
    }

    /** The FACE that one sees, and how high it is, in lowest terms. */
    Asked aboveIs(int step, int across, int face, int upper, int lower) {
        return above(step, across, 0).is(face).above(step, across, 1).is(upper + 100000).above(step, across, 2).is(lower);
    }

    Asked nothingAbove(int step, int across) {
        for (int what = 0; what <= 2; what++) above(step, across, what).is(HingeCards.NONE);
        return this;
    }
}
