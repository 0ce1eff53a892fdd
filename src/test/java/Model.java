import java.util.ArrayList;
import java.util.HashSet;
import java.util.List;
import java.util.Set;

/**
 * The document once more, as slow and as near to its words as can be: everything is found anew from
 * LONG and the row of BOXES, over sets of points. It is what HingeCards is held against.
 */
final class Model {
    private static final int[][] STEPS = {
        {25, 0}, {24, 7}, {20, 15}, {15, 20}, {7, 24}, {0, 25},
        {-7, 24}, {-15, 20}, {-20, 15}, {-24, 7}, {-25, 0}};

    private int pages = 8;
    private List<int[]> boxes = new ArrayList<>();
    private final int[] keptPages = new int[2];
    private final List<List<int[]>> kept = new ArrayList<>();

    /** Each: p and q of the first end, p and q of the last end. */
    private final List<int[]> faces = new ArrayList<>();
    /** Each: p, q, u, v. */
    private final List<int[]> corners = new ArrayList<>();
    /** Doubled, so that the middle between two PLACES has whole numbers too. */
    private final Set<Integer> onAlongP = new HashSet<>();
    private final Set<Integer> onAlongQ = new HashSet<>();

    Model() {
        kept.add(null);
        kept.add(null);
        refresh();
    }

    private static int key(int p2, int q2) {
        return (p2 + 100) * 1000 + q2 + 100;
    }

    private void refresh() {
        faces.clear();
        corners.clear();
        faces.add(new int[] {0, 0, pages, 0});
        faces.add(new int[] {0, 0, 0, pages});
        corners.add(new int[] {0, 0, 1, 1});
        for (int[] box : boxes) bring(box);
        onAlongP.clear();
        onAlongQ.clear();
        for (int[] f : faces) {
            Set<Integer> on = f[1] == f[3] ? onAlongP : onAlongQ;
            for (int p = 2 * f[0]; p <= 2 * f[2]; p++) for (int q = 2 * f[1]; q <= 2 * f[3]; q++) on.add(key(p, q));
        }
    }

    private void bring(int[] box) {
        int[] k = corners.get(box[0]);
        int p = k[0], q = k[1], u = k[2], v = k[3];
        int[] x = {p + u * box[1], q}, y = {p, q + v * box[2]}, z = {p + u * box[1], q + v * box[2]};
        faces.add(ordered(x, z));
        faces.add(ordered(y, z));
        corners.add(new int[] {x[0], x[1], -u, v});
        corners.add(new int[] {x[0], x[1], u, v});
        corners.add(new int[] {y[0], y[1], u, -v});
        corners.add(new int[] {y[0], y[1], u, v});
        corners.add(new int[] {z[0], z[1], -u, -v});
    }

    private static int[] ordered(int[] one, int[] other) {
        boolean isFirst = one[0] + one[1] < other[0] + other[1];
        int[] first = isFirst ? one : other, last = isFirst ? other : one;
        return new int[] {first[0], first[1], last[0], last[1]};
    }

    private boolean isOn(int p, int q) {
        return onAlongP.contains(key(2 * p, 2 * q)) || onAlongQ.contains(key(2 * p, 2 * q));
    }

    private int reach(int[] k, boolean isP) {
        int r = 0;
        for (;;) {
            int p2 = 2 * k[0] + (isP ? k[2] * (2 * r + 1) : 0);
            int q2 = 2 * k[1] + (isP ? 0 : k[3] * (2 * r + 1));
            if (!(isP ? onAlongP : onAlongQ).contains(key(p2, q2))) return r;
            r++;
        }
    }

    private int reason(int corner, int a, int b) {
        int[] k = corners.get(corner);
        if (a > reach(k, true) || b > reach(k, false)) return 1;
        int p = k[0], q = k[1], zp = p + k[2] * a, zq = q + k[3] * b;
        if (zp + zq > pages) return 2;
        for (int j = 1; j <= b; j++) if (isOn(zp, q + k[3] * j)) return 3;
        for (int i = 1; i <= a; i++) if (isOn(p + k[2] * i, zq)) return 3;
        return 0;
    }

    private List<int[]> possible() {
        List<int[]> all = new ArrayList<>();
        if (boxes.size() == 6) return all;
        for (int k = 0; k < corners.size(); k++) {
            int reachP = reach(corners.get(k), true), reachQ = reach(corners.get(k), false);
            for (int a = 1; a <= reachP; a++) for (int b = 1; b <= reachQ; b++) {
                if (reason(k, a, b) == 0) all.add(new int[] {k, a, b});
            }
        }
        return all;
    }

    private static boolean in(int x, int low, int high) {
        return low <= x && x <= high;
    }

    int size(int v) {
        if (!in(v, 4, 12)) return -2;
        if (!boxes.isEmpty()) return -3;
        int was = pages;
        pages = v;
        refresh();
        return was;
    }

    int put(int corner, int a, int b) {
        if (!in(corner, 0, corners.size() - 1)) return -1;
        if (!in(a, 1, 12) || !in(b, 1, 12)) return -2;
        if (boxes.size() == 6) return -4;
        if (reason(corner, a, b) != 0) return -5;
        boxes.add(new int[] {corner, a, b});
        refresh();
        return faces.size();
    }

    int off() {
        if (boxes.isEmpty()) return -3;
        boxes.remove(boxes.size() - 1);
        refresh();
        return boxes.size();
    }

    int why(int corner, int a, int b) {
        if (!in(corner, 0, corners.size() - 1)) return -1;
        if (!in(a, 1, 12) || !in(b, 1, 12)) return -2;
        return reason(corner, a, b);
    }

    int corner(int corner, int what) {
        if (!in(corner, 0, corners.size() - 1)) return -1;
        if (!in(what, 0, 5)) return -2;
        int[] k = corners.get(corner);
        if (what < 2) return k[what] + 100;
        return what < 4 ? k[what] + 1 : reach(k, what == 4);
    }

    int face(int face, int what) {
        if (!in(face, 0, faces.size() - 1)) return -1;
        if (!in(what, 0, 3)) return -2;
        int[] f = faces.get(face);
        if (what == 0) return f[1] == f[3] ? 0 : 1;
        return what < 3 ? f[what - 1] + 100 : f[2] - f[0] + f[3] - f[1];
    }

    int on(int p, int q) {
        if (!in(p, -12, 12) || !in(q, -12, 12)) return -2;
        int n = 0;
        for (int[] f : faces) if (in(p, f[0], f[2]) && in(q, f[1], f[3])) n++;
        return n;
    }

    int ways() {
        return possible().size();
    }

    int greatest(int what) {
        if (!in(what, 0, 3)) return -2;
        int[] best = null;
        for (int[] x : possible()) {
            if (best == null || x[1] * x[2] > best[1] * best[2]) best = x;
            else if (x[1] * x[2] == best[1] * best[2]
                    && (x[0] < best[0] || x[0] == best[0] && x[1] < best[1])) best = x;
        }
        if (best == null) return -6;
        return what == 0 ? best[1] * best[2] : best[what - 1];
    }

    int two() {
        int best = -6;
        for (int[] x : possible()) {
            put(x[0], x[1], x[2]);
            best = Math.max(best, x[1] * x[2] + Math.max(0, greatest(0)));
            off();
        }
        return best;
    }

    private static int across(int step, int p, int q) {
        return 25 * p + STEPS[step][0] * q;
    }

    private static int up(int step, int q) {
        return STEPS[step][1] * q;
    }

    int view(int step, int what) {
        if (!in(step, 0, 10) || !in(what, 0, 3)) return -2;
        int least = Integer.MAX_VALUE, most = Integer.MIN_VALUE;
        for (int p = 0; p <= 12; p++) for (int q = 0; q <= 12; q++) {
            if (!isOn(p, q)) continue;
            int x = what < 2 ? across(step, p, q) : up(step, q);
            least = Math.min(least, x);
            most = Math.max(most, x);
        }
        return (what == 0 || what == 3 ? least : most) + 1000;
    }

    int above(int step, int across, int what) {
        if (!in(step, 0, 10) || !in(across, -600, 600) || !in(what, 0, 2)) return -2;
        int best = -6;
        long upper = 0, lower = 1;
        for (int f = 0; f < faces.size(); f++) {
            long[] h = height(faces.get(f), step, across);
            if (h == null || best >= 0 && h[0] * lower <= upper * h[1]) continue;
            best = f;
            upper = h[0];
            lower = h[1];
        }
        if (best < 0 || what == 0) return best;
        long d = gcd(Math.abs(upper), lower);
        return (int) (what == 1 ? upper / d + 100000 : lower / d);
    }

    /** From the straight line between the two ends, wherever they are. */
    private static long[] height(int[] f, int step, int across) {
        long x1 = across(step, f[0], f[1]), x2 = across(step, f[2], f[3]);
        long y1 = up(step, f[1]), y2 = up(step, f[3]);
        if (across < Math.min(x1, x2) || across > Math.max(x1, x2)) return null;
        if (x1 == x2) return new long[] {Math.max(y1, y2), 1};
        long upper = y1 * (x2 - x1) + (y2 - y1) * (across - x1), lower = x2 - x1;
        return lower > 0 ? new long[] {upper, lower} : new long[] {-upper, -lower};
    }

    private static long gcd(long a, long b) {
        return b == 0 ? a : gcd(b, a % b);
    }

    int apart(int one, int other, int step) {
        if (!in(one, 0, faces.size() - 1) || !in(other, 0, faces.size() - 1)) return -1;
        if (!in(step, 0, 10)) return -2;
        int[] f = faces.get(one), g = faces.get(other);
        int x = across(step, f[0], f[1]) - across(step, g[0], g[1]), y = up(step, f[1]) - up(step, g[1]);
        return x * x + y * y;
    }

    int image(int k) {
        if (!in(k, 0, 1)) return -2;
        keptPages[k] = pages;
        kept.set(k, new ArrayList<>(boxes));
        return 1;
    }

    int restore(int k) {
        if (!in(k, 0, 1)) return -2;
        if (kept.get(k) == null) return -3;
        pages = keptPages[k];
        boxes = new ArrayList<>(kept.get(k));
        refresh();
        return 1;
    }

    int count(int what) {
        int n = 0;
        switch (what) {
            case 0: return boxes.size();
            case 1: return faces.size();
            case 2: return corners.size();
            case 3: return pages;
            case 4:
                for (int[] box : boxes) n += box[1] * box[2];
                return n;
            case 5:
                for (int p = -12; p <= 12; p++) for (int q = -12; q <= 12; q++) if (isOn(p, q)) n++;
                return n;
            case 6: return (kept.get(0) == null ? 0 : 1) + (kept.get(1) == null ? 0 : 2);
            default: return -2;
        }
    }
}
