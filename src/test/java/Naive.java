import java.util.ArrayList;
import java.util.List;

/** The document's terms, worked out in the most plain way, from all rays, a set that is in, and a rule. */
final class Naive {
    final int sides;
    final int[][] rays;
    final int in;
    final int rule;
    final List<Integer> frames;

    Naive(int sides, int[][] rays, int in, int rule) {
        this.sides = sides;
        this.rays = rays;
        this.in = in;
        this.rule = rule;
        this.frames = framesOf(in);
    }

    static boolean has(int set, int ray) {
        return (set >> ray & 1) != 0;
    }

    int dot(int a, int b) {
        int sum = 0;
        for (int k = 0; k < sides; k++) {
            sum += rays[a][k] * rays[b][k];
        }
        return sum;
    }

    boolean upright(int a, int b) {
        return has(in, a) && has(in, b) && dot(a, b) == 0;
    }

    int meets(int a) {
        int set = 0;
        for (int b = 0; b < rays.length; b++) {
            if (upright(a, b)) {
                set |= 1 << b;
            }
        }
        return set;
    }

    int couples() {
        int sum = 0;
        for (int a = 0; a < rays.length; a++) {
            sum += Integer.bitCount(meets(a));
        }
        return sum / 2;
    }

    List<Integer> framesOf(int set) {
        List<Integer> found = new ArrayList<>();
        addFrames(found, set, 0, 0);
        return found;
    }

    private void addFrames(List<Integer> found, int set, int have, int from) {
        if (Integer.bitCount(have) == sides) {
            found.add(have);
            return;
        }
        for (int r = from; r < rays.length; r++) {
            if (has(set, r)) {
                boolean fits = true;
                for (int q = 0; q < r; q++) {
                    fits &= !has(have, q) || dot(q, r) == 0;
                }
                if (fits) {
                    addFrames(found, set, have | 1 << r, r + 1);
                }
            }
        }
    }

    boolean mayBoth(int a, int b, List<Integer> own) {
        if (rule == 0) {
            return dot(a, b) != 0;
        }
        for (int f : own) {
            if (has(f, a) && has(f, b)) {
                return false;
            }
        }
        return true;
    }

    /** For each ray those that it may not be yes beside. */
    int[] bars(int set, List<Integer> own) {
        int[] bars = new int[rays.length];
        for (int a = 0; a < rays.length; a++) {
            for (int b = 0; b < rays.length; b++) {
                if (a != b && has(set, a) && has(set, b) && !mayBoth(a, b, own)) {
                    bars[a] |= 1 << b;
                }
            }
        }
        return bars;
    }

    static boolean independent(int set, int[] bars) {
        for (int a = 0; a < bars.length; a++) {
            if (has(set, a) && (bars[a] & set) != 0) {
                return false;
            }
        }
        return true;
    }

    static boolean isChoice(int c, int[] bars, List<Integer> own) {
        for (int f : own) {
            if (Integer.bitCount(f & c) != 1) {
                return false;
            }
        }
        return independent(c, bars);
    }

    List<Integer> choices() {
        int[] bars = bars(in, frames);
        List<Integer> found = new ArrayList<>();
        for (int c = 0; c < 1 << rays.length; c++) {
            if ((c & ~in) == 0 && isChoice(c, bars, frames)) {
                found.add(c);
            }
        }
        return found;
    }

    boolean refused(int set) {
        List<Integer> own = framesOf(set);
        int[] bars = bars(set, own);
        int c = set;
        while (true) {
            if (isChoice(c, bars, own)) {
                return false;
            }
            if (c == 0) {
                return true;
            }
            c = c - 1 & set;
        }
    }

    /** yes, no, clash (1). */
    int[] forced(int yes, int no) {
        int[] bars = bars(in, frames);
        boolean more = true;
        while (more) {
            int yesWas = yes;
            int noWas = no;
            for (int a = 0; a < rays.length; a++) {
                if (has(yes, a)) {
                    no |= bars[a];
                }
            }
            for (int f : frames) {
                for (int a = 0; a < rays.length; a++) {
                    if (has(f, a) && (f & ~no & ~(1 << a)) == 0) {
                        yes |= 1 << a;
                    }
                }
            }
            more = yes != yesWas || no != noWas;
        }
        int clash = (yes & no) != 0 ? 1 : 0;
        for (int f : frames) {
            if ((f & ~no) == 0) {
                clash = 1;
            }
        }
        return new int[] {yes, no, clash};
    }

    /** leafs, depth, clashes. */
    int[] tree() {
        int[] t = new int[3];
        grow(0, 0, 0, t);
        return t;
    }

    private boolean grow(int yes, int no, int depth, int[] t) {
        int[] now = forced(yes, no);
        t[1] = Math.max(t[1], depth);
        if (now[2] == 1) {
            t[0]++;
            t[2]++;
            return false;
        }
        for (int r = 0; r < rays.length; r++) {
            if (has(in, r) && !has(now[0] | now[1], r)) {
                return grow(now[0] | 1 << r, now[1], depth + 1, t) || grow(now[0], now[1] | 1 << r, depth + 1, t);
            }
        }
        t[0]++;
        return true;
    }

    int spared(boolean back) {
        if (!refused(in)) {
            return 0;
        }
        int left = in;
        for (int i = 0; i < rays.length; i++) {
            int r = back ? rays.length - 1 - i : i;
            if (has(left, r) && refused(left & ~(1 << r))) {
                left &= ~(1 << r);
            }
        }
        return left;
    }

    /** Sets of at least so many rays are looked at alone. */
    int fewest(int atLeast) {
        int best = 0;
        for (int set = 0; set < 1 << rays.length; set++) {
            int n = Integer.bitCount(set);
            if ((set & ~in) == 0 && n >= atLeast && (best == 0 || n < Integer.bitCount(best)) && refused(set)) {
                best = set;
            }
        }
        return best;
    }

    /** How many frames, the set. */
    int[] most() {
        int[] bars = bars(in, frames);
        int[] best = {-1, 0};
        for (int set = 0; set < 1 << rays.length; set++) {
            if ((set & ~in) == 0 && independent(set, bars)) {
                int right = 0;
                for (int f : frames) {
                    right += (f & set) != 0 ? 1 : 0;
                }
                if (right > best[0]) {
                    best[0] = right;
                    best[1] = set;
                }
            }
        }
        return best;
    }

    int[] apart() {
        int[] up = new int[rays.length];
        for (int r = 0; r < rays.length; r++) {
            up[r] = meets(r);
        }
        int[] best = {-1, 0};
        for (int set = 0; set < 1 << rays.length; set++) {
            if ((set & ~in) == 0 && Integer.bitCount(set) > best[0] && independent(set, up)) {
                best[0] = Integer.bitCount(set);
                best[1] = set;
            }
        }
        return best;
    }

    int hues() {
        for (int k = 0; ; k++) {
            if (paint(0, k, new int[rays.length])) {
                return k;
            }
        }
    }

    private boolean paint(int r, int k, int[] hue) {
        if (r == rays.length) {
            return true;
        }
        if (!has(in, r)) {
            return paint(r + 1, k, hue);
        }
        for (int h = 1; h <= k; h++) {
            boolean fits = true;
            for (int q = 0; q < r; q++) {
                fits &= !(upright(q, r) && hue[q] == h);
            }
            if (fits) {
                hue[r] = h;
                if (paint(r + 1, k, hue)) {
                    return true;
                }
                hue[r] = 0;
            }
        }
        return false;
    }

    /** The frames of the least parity, rising; empty, if there is none. For few frames. */
    List<Integer> parity() {
        int n = Math.min(40, frames.size());
        List<Integer> best = new ArrayList<>();
        for (long set = 1; set < 1L << n; set++) {
            if (Long.bitCount(set) % 2 == 1 && sum(set) == 0) {
                List<Integer> now = new ArrayList<>();
                for (int i = 0; i < n; i++) {
                    if ((set >> i & 1) != 0) {
                        now.add(i);
                    }
                }
                if (best.isEmpty() || now.size() < best.size() || now.size() == best.size() && before(now, best)) {
                    best = now;
                }
            }
        }
        return best;
    }

    private static boolean before(List<Integer> a, List<Integer> b) {
        for (int i = 0; i < a.size(); i++) {
            if (!a.get(i).equals(b.get(i))) {
                return a.get(i) < b.get(i);
            }
        }
        return false;
    }

    private int sum(long set) {
        int sum = 0;
        for (int i = 0; i < frames.size() && i < 40; i++) {
            if ((set >> i & 1) != 0) {
                sum ^= frames.get(i);
            }
        }
        return sum;
    }

    /** For few frames. */
    int even() {
        int n = Math.min(40, frames.size());
        int found = 0;
        for (long set = 0; set < 1L << n; set++) {
            if (sum(set) == 0) {
                found++;
            }
        }
        return Integer.numberOfTrailingZeros(found);
    }

    static boolean sameRay(int[] a, int[] b) {
        boolean same = true;
        for (int i = 0; i < a.length; i++) {
            for (int k = 0; k < a.length; k++) {
                same &= a[i] * b[k] == a[k] * b[i];
            }
        }
        return same;
    }

    /** Number of symmetries last; ahead of it for each ray those alike. */
    int[] symmetries() {
        int[] out = new int[rays.length + 1];
        permute(new int[sides], 0, 0, out);
        return out;
    }

    private void permute(int[] to, int k, int used, int[] out) {
        if (k == sides) {
            for (int turned = 0; turned < 1 << sides; turned++) {
                turn(to, turned, out);
            }
            return;
        }
        for (int p = 0; p < sides; p++) {
            if (!has(used, p)) {
                to[k] = p;
                permute(to, k + 1, used | 1 << p, out);
            }
        }
    }

    private void turn(int[] to, int turned, int[] out) {
        int[] image = new int[rays.length];
        for (int r = 0; r < rays.length; r++) {
            if (!has(in, r)) {
                continue;
            }
            int[] row = new int[sides];
            for (int k = 0; k < sides; k++) {
                row[to[k]] = has(turned, k) ? -rays[r][k] : rays[r][k];
            }
            for (int q = 0; q < rays.length; q++) {
                if (has(in, q) && sameRay(row, rays[q])) {
                    image[r] = 1 << q;
                }
            }
            if (image[r] == 0) {
                return;
            }
        }
        out[rays.length]++;
        for (int r = 0; r < rays.length; r++) {
            out[r] |= image[r];
        }
    }

    int[] third(int a, int b) {
        int[] p = rays[a];
        int[] q = rays[b];
        int[] t = {p[1] * q[2] - p[2] * q[1], p[2] * q[0] - p[0] * q[2], p[0] * q[1] - p[1] * q[0]};
        for (int d = 200; d > 1; d--) {
            while (t[0] % d == 0 && t[1] % d == 0 && t[2] % d == 0) {
                for (int k = 0; k < 3; k++) {
                    t[k] /= d;
                }
            }
        }
        int first = t[0] != 0 ? t[0] : t[1] != 0 ? t[1] : t[2];
        for (int k = 0; k < 3; k++) {
            t[k] *= first < 0 ? -1 : 1;
        }
        return t;
    }

    /** How many lack, the first one, how many have a third that is out. */
    int[] lacking() {
        int[] out = {0, -1, 0};
        for (int a = 0; a < rays.length; a++) {
            for (int b = a + 1; b < rays.length; b++) {
                boolean lacks = upright(a, b);
                for (int f : frames) {
                    lacks &= !(has(f, a) && has(f, b));
                }
                if (!lacks) {
                    continue;
                }
                out[0]++;
                if (out[1] < 0) {
                    out[1] = 20 * a + b;
                }
                for (int c = 0; c < rays.length && sides == 3; c++) {
                    if (!has(in, c) && sameRay(rays[c], third(a, b))) {
                        out[2]++;
                    }
                }
            }
        }
        return out;
    }

    /** Steps from each to each; -1 where one doesn't come. */
    int[][] far() {
        int n = rays.length;
        int[][] far = new int[n][n];
        for (int a = 0; a < n; a++) {
            for (int b = 0; b < n; b++) {
                far[a][b] = a == b ? 0 : upright(a, b) ? 1 : 1000;
            }
        }
        for (int m = 0; m < n; m++) {
            for (int a = 0; a < n; a++) {
                for (int b = 0; b < n; b++) {
                    far[a][b] = Math.min(far[a][b], far[a][m] + far[m][b]);
                }
            }
        }
        for (int[] row : far) {
            for (int b = 0; b < n; b++) {
                row[b] = row[b] >= 1000 ? -1 : row[b];
            }
        }
        return far;
    }

    int parts() {
        int[][] far = far();
        int found = 0;
        for (int a = 0; a < rays.length; a++) {
            boolean first = has(in, a);
            for (int b = 0; b < a; b++) {
                first &= !(has(in, b) && far[a][b] >= 0);
            }
            found += first ? 1 : 0;
        }
        return found;
    }

    String said() {
        StringBuilder text = new StringBuilder("sides " + sides + ";");
        for (int r = 0; r < rays.length; r++) {
            if (has(in, r)) {
                text.append("ray");
                for (int k = 0; k < sides; k++) {
                    text.append(' ').append(rays[r][k]);
                }
                text.append(';');
            }
        }
        return text.toString();
    }
}
