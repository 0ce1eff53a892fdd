import java.util.Random;

/** Long runs of calls, the same at every start, each answer held against the Model's. */
public final class RunsAgainstModelTest {
    private static final int[] ODD = {Integer.MIN_VALUE, Integer.MIN_VALUE + 1, -601, -13, -1, 13, 601,
        1 << 30, Integer.MAX_VALUE - 1, Integer.MAX_VALUE};

    private final Due due;
    private final Random random;
    private final HingeCards card = new HingeCards();
    private final Model model = new Model();
    private final String name;

    private RunsAgainstModelTest(Due due, long seed) {
        this.due = due;
        this.random = new Random(seed);
        this.name = "run " + seed + " ";
    }

    public static void main(String[] args) {
        Due due = new Due();
        for (int seed = 1; seed <= 120; seed++) {
            RunsAgainstModelTest run = new RunsAgainstModelTest(due, seed);
            for (int call = 1; call <= 512; call++) run.call(call);
        }
        // What stands after random puts is looked at through every call with every argument.
        for (int seed = 1001; seed <= 1040; seed++) {
            RunsAgainstModelTest run = new RunsAgainstModelTest(due, seed);
            run.size(4 + seed % 9);
            for (int tries = 0; tries < 60; tries++) run.put();
            for (int offs = seed % 4; offs > 0; offs--) run.off();
            run.lookAtAll();
        }
        for (int seed = 2001; seed <= 2200; seed++) {
            RunsAgainstModelTest run = new RunsAgainstModelTest(due, seed);
            run.size(4 + seed % 9);
            for (int boxes = 0; boxes <= 6; boxes++) run.lookAtWhatCanBe(boxes);
        }
        due.end("RunsAgainstModelTest");
    }

    private int pick(int low, int high) {
        return random.nextInt(40) == 0 ? ODD[random.nextInt(ODD.length)] : low + random.nextInt(high - low + 1);
    }

    private int cornerNumber() {
        return pick(-1, model.count(2));
    }

    private int faceNumber() {
        return pick(-1, model.count(1));
    }

    private int side() {
        return random.nextInt(3) == 0 ? pick(0, 13) : pick(1, 4);
    }

    private void call(int number) {
        switch (random.nextInt(30)) {
            case 0: size(pick(3, 13)); break;
            case 1: case 2: case 3: case 4: case 5: case 6: case 7: case 8: put(); break;
            case 9: case 10: off(); break;
            case 11: case 12: why(cornerNumber(), side(), side()); break;
            case 13: case 14: corner(cornerNumber(), pick(-1, 6)); break;
            case 15: case 16: face(faceNumber(), pick(-1, 4)); break;
            case 17: on(pick(-13, 13), pick(-13, 13)); break;
            case 18: ways(); break;
            case 19: greatest(pick(-1, 4)); break;
            case 20: if (number % 4 == 0) two(); break;
            case 21: case 22: view(pick(-1, 11), pick(-1, 4)); break;
            case 23: case 24: above(pick(-1, 11), pick(-320, 320), pick(-1, 3)); break;
            case 25: apart(faceNumber(), faceNumber(), pick(-1, 11)); break;
            case 26: image(pick(-1, 2)); break;
            case 27: if (random.nextInt(3) == 0) restore(pick(-1, 2)); break;
            default: count(pick(-1, 7)); break;
        }
    }

    private void lookAtAll() {
        for (int what = -1; what <= 7; what++) {
            count(what);
            greatest(what);
            for (int k = -1; k <= 31; k++) corner(k, what);
            for (int f = -1; f <= 14; f++) face(f, what);
        }
        ways();
        two();
        for (int p = -13; p <= 13; p++) for (int q = -13; q <= 13; q++) on(p, q);
        for (int k = -1; k <= 31; k++) for (int a = 0; a <= 13; a++) for (int b = 0; b <= 13; b++) why(k, a, b);
        for (int step = -1; step <= 11; step++) {
            for (int what = -1; what <= 4; what++) view(step, what);
            for (int f = -1; f <= 14; f++) for (int g = -1; g <= 14; g++) apart(f, g, step);
            for (int across = -601; across <= 601; across++) {
                for (int what = -1; what <= 3; what++) above(step, across, what);
            }
        }
    }

    private void lookAtWhatCanBe(int boxes) {
        for (int tries = 0; tries < 40 && model.count(0) < boxes; tries++) put();
        ways();
        for (int what = 0; what <= 3; what++) greatest(what);
        two();
        count(0);
        count(5);
    }

    private void size(int v) {
        due.is(name + "size(" + v + ")", card.size(v), model.size(v));
    }

    private void put() {
        int k = cornerNumber(), a = side(), b = side();
        due.is(name + "put(" + k + ", " + a + ", " + b + ")", card.put(k, a, b), model.put(k, a, b));
    }

    private void off() {
        due.is(name + "off()", card.off(), model.off());
    }

    private void why(int k, int a, int b) {
        due.is(name + "why(" + k + ", " + a + ", " + b + ")", card.why(k, a, b), model.why(k, a, b));
    }

    private void corner(int k, int what) {
        due.is(name + "corner(" + k + ", " + what + ")", card.corner(k, what), model.corner(k, what));
    }

    private void face(int f, int what) {
        due.is(name + "face(" + f + ", " + what + ")", card.face(f, what), model.face(f, what));
    }

    private void on(int p, int q) {
        due.is(name + "on(" + p + ", " + q + ")", card.on(p, q), model.on(p, q));
    }

    private void ways() {
        due.is(name + "ways()", card.ways(), model.ways());
    }

    private void greatest(int what) {
        due.is(name + "greatest(" + what + ")", card.greatest(what), model.greatest(what));
    }

    private void two() {
        due.is(name + "two()", card.two(), model.two());
    }

    private void view(int step, int what) {
        due.is(name + "view(" + step + ", " + what + ")", card.view(step, what), model.view(step, what));
    }

    private void above(int step, int across, int what) {
        due.is(name + "above(" + step + ", " + across + ", " + what + ")",
                card.above(step, across, what), model.above(step, across, what));
    }

    private void apart(int f, int g, int step) {
        due.is(name + "apart(" + f + ", " + g + ", " + step + ")", card.apart(f, g, step), model.apart(f, g, step));
    }

    private void image(int k) {
        due.is(name + "image(" + k + ")", card.image(k), model.image(k));
    }

    private void restore(int k) {
        due.is(name + "restore(" + k + ")", card.restore(k), model.restore(k));
    }

    private void count(int what) {
        due.is(name + "count(" + what + ")", card.count(what), model.count(what));
    }
}
