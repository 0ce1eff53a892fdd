/** Counts and prints the answers that are not the ones that are due. */
final class Due {
    private int asked = 0;
    private int wrong = 0;

    void is(String call, long got, long want) {
        asked++;
        if (got == want) return;
        wrong++;
        if (wrong <= 50) System.out.println(call + " answered " + got + ", due is " + want);
    }

    void holds(String what, boolean isSo) {
        is(what, isSo ? 1 : 0, 1);
    }

    int asked() {
        return asked;
    }

    void end(String name) {
        System.out.println(name + ": " + asked + " answers looked at, " + wrong + " not as due");
        if (wrong != 0 || asked == 0) System.exit(1);
    }
}
