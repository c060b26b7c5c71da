import java.util.ArrayList;
import java.util.List;
import java.util.Random;

/** All answers against those of the plain way, for sets of rays that are drawn (by fixed seeds). */
public final class NaiveTests {
    private static final Kit KIT = new Kit("NaiveTests");

    public static void main(String[] args) {
        Random random = new Random(7);
        for (int i = 0; i < 400; i++) {
            int sides = 3 + i % 2;
            int[][] rays = draw(random, sides, random.nextInt(12), 1 + random.nextInt(i % 5 == 0 ? 9 : 2));
            compare(random, sides, rays, 16);
        }
        for (int i = 0; i < 6; i++) {
            int sides = 3 + i % 2;
            compare(random, sides, draw(random, sides, 20, i < 4 ? 1 : 2), 18);
        }
        for (int rule = 0; rule < 2; rule++) {
            compareSet(random, new Naive(4, told(Kit.NEVER_YES), Kit.ALL, rule), 18);
        }
        planes(random);
        refusedOnes(random);
        KIT.end();
    }

    private static int[][] told(String text) {
        YesNoRays x = Kit.of(text);
        int[][] rays = new int[x.count(1)][x.count(0)];
        for (int r = 0; r < rays.length; r++) {
            for (int k = 0; k < rays[r].length; k++) {
                rays[r][k] = x.ray(r, k);
            }
        }
        return rays;
    }

    /** Rays of two planes that are upright on one another, in 4 sides: many frames, each two pairs. */
    private static void planes(Random random) {
        int[][] pairs = {{1, 0}, {1, 1}, {1, 2}, {1, 3}, {2, 3}};
        List<int[]> rays = new ArrayList<>();
        for (int[] p : pairs) {
            rays.add(new int[] {p[0], p[1], 0, 0});
            rays.add(new int[] {-p[1], p[0], 0, 0});
            rays.add(new int[] {0, 0, p[0], p[1]});
            rays.add(new int[] {0, 0, p[1], -p[0]});
        }
        YesNoRays x = objectOf(4, rays.toArray(new int[0][]));
        KIT.due("frames of two planes", 25, x.count(4));
        KIT.due("even of two planes", 16, x.even());
        KIT.due("parity of two planes", -1, x.parity());
        compare(random, 4, rays.subList(0, 16).toArray(new int[0][]), 16);
    }

    /** Sets of 20 of the 24 rays of 4 sides of which 18 or 20 are refused already. */
    private static void refusedOnes(Random random) {
        int[][] all = peres();
        int found = 0;
        int sparing = 0;
        for (int i = 0; i < 20000 && (found < 12 || sparing < 4); i++) {
            int[][] rays = some(random, all, 20);
            YesNoRays x = objectOf(4, rays);
            if (x.count(9) == 0) {
                continue;
            }
            boolean spares = x.fewest() != (1 << 20) - 1;
            if (spares ? sparing < 4 : found < 12) {
                found += spares ? 0 : 1;
                sparing += spares ? 1 : 0;
                compareRefused(x, new Naive(4, rays, (1 << 20) - 1, 0));
                comparePartsOf(x, new Naive(4, rays, (1 << 20) - 1, 0));
                x.rule(1);
                compareRefused(x, new Naive(4, rays, (1 << 20) - 1, 1));
                comparePartsOf(x, new Naive(4, rays, (1 << 20) - 1, 1));
            }
        }
        KIT.due("refused sets that spare rays", 4, sparing);
        KIT.due("there are refused sets that don't", true, found > 0);
    }

    private static void compareRefused(YesNoRays x, Naive n) {
        String of = n.said() + " rule " + n.rule + ": ";
        KIT.due(of + "refused", n.refused(n.in), x.isRefused(n.in));
        KIT.due(of + "count(9)", n.refused(n.in) ? 1 : 0, x.count(9));
        KIT.due(of + "ways", 0, x.count(8));
        KIT.due(of + "spared", n.spared(false), x.spared(false));
        KIT.due(of + "spared back", n.spared(true), x.spared(true));
        if (n.rule == 0) {
            KIT.due(of + "fewest", n.fewest(18), x.fewest());
        }
        compareTree(of, x, n);
        compareParity(of, x, n);
        compareSpread(of, x, n);
        compareSymmetries(of, x, n);
    }

    /** Parts that lack up to three rays: all but refused, so that few choices are left. */
    private static void comparePartsOf(YesNoRays x, Naive n) {
        for (int a = 0; a < 20; a++) {
            for (int b = 0; b <= a; b++) {
                int set = n.in & ~(1 << a) & ~(1 << b) & ~(1 << (a + 7 * b) % 20);
                KIT.due(n.said() + " rule " + n.rule + ": refused " + set, n.refused(set), x.isRefused(set));
                if (b == 0) {
                    x.only(set);
                    KIT.due(n.said() + " rule " + n.rule + ": all refused " + set, n.refused(set) ? 1 : 0, x.count(9));
                    compareTree(set + " of " + n.said() + ": ", x, new Naive(4, n.rays, set, n.rule));
                    x.undo();
                }
            }
        }
    }

    private static int[][] peres() {
        List<int[]> rays = new ArrayList<>();
        for (int code = 0; code < 81; code++) {
            int[] row = {code % 3 - 1, code / 3 % 3 - 1, code / 9 % 3 - 1, code / 27 - 1};
            int size = 0;
            for (int v : row) {
                size += v * v;
            }
            if (size != 3 && size != 0 && isNew(rays, row)) {
                rays.add(row);
            }
        }
        return rays.toArray(new int[0][]);
    }

    private static boolean isNew(List<int[]> rays, int[] row) {
        for (int[] r : rays) {
            if (Naive.sameRay(r, row)) {
                return false;
            }
        }
        return true;
    }

    private static int[][] some(Random random, int[][] all, int n) {
        List<int[]> left = new ArrayList<>(List.of(all));
        int[][] out = new int[n][];
        for (int i = 0; i < n; i++) {
            out[i] = left.remove(random.nextInt(left.size()));
        }
        return out;
    }

    private static int[][] draw(Random random, int sides, int n, int largest) {
        List<int[]> rays = new ArrayList<>();
        for (int tries = 0; rays.size() < n && tries < 1000; tries++) {
            int[] row = new int[sides];
            int all = 0;
            for (int k = 0; k < sides; k++) {
                row[k] = random.nextInt(2 * largest + 1) - largest;
                row[k] = random.nextInt(3) == 0 ? 0 : row[k];
                all |= row[k];
            }
            if (all != 0 && isNew(rays, row)) {
                rays.add(row);
            }
        }
        return rays.toArray(new int[0][]);
    }

    private static YesNoRays objectOf(int sides, int[][] rays) {
        return Kit.of(new Naive(sides, rays, (1 << rays.length) - 1, 0).said());
    }

    private static void compare(Random random, int sides, int[][] rays, int evenFrames) {
        int all = (1 << rays.length) - 1;
        int out = random.nextInt() & random.nextInt() & random.nextInt() & all;
        int rule = random.nextInt(2);
        if (random.nextInt(3) == 0) {
            out = 0;
        }
        compareSet(random, new Naive(sides, rays, all & ~out, rule), evenFrames);
    }

    private static void compareSet(Random random, Naive n, int evenFrames) {
        YesNoRays x = objectOf(n.sides, n.rays);
        x.rule(n.rule);
        x.only(n.in);
        String of = n.said() + " of " + n.rays.length + " rule " + n.rule + ": ";
        compareWeb(of, x, n);
        compareChoices(of, random, x, n);
        compareTree(of, x, n);
        compareSpread(of, x, n);
        compareSymmetries(of, x, n);
        if (n.frames.size() <= evenFrames) {
            compareParity(of, x, n);
        }
        KIT.due(of + "say", n.said().length(), x.say());
        KIT.due(of + "said", n.said(), Kit.saidText(x));
    }

    private static void compareWeb(String of, YesNoRays x, Naive n) {
        KIT.due(of + "in", Integer.bitCount(n.in), x.count(2));
        KIT.due(of + "couples", n.couples(), x.count(3));
        KIT.due(of + "frames", n.frames.size(), x.count(4));
        for (int f = 0; f < n.frames.size(); f++) {
            KIT.due(of + "frame " + f, n.frames.get(f), x.frame(f));
        }
        int[] lacking = n.lacking();
        for (int what = 0; what < 3; what++) {
            KIT.due(of + "lacking " + what, lacking[what], x.lacking(what));
        }
        KIT.due(of + "parts", n.parts(), x.parts());
        int[][] far = n.far();
        for (int a = 0; a < n.rays.length; a++) {
            KIT.due(of + "meets " + a, n.meets(a), x.meets(a));
            for (int b = 0; b < n.rays.length; b++) {
                KIT.due(of + "product " + a + " " + b, n.dot(a, b), x.product(a, b));
                if (Naive.has(n.in, a) && Naive.has(n.in, b)) {
                    KIT.due(of + "far " + a + " " + b, far[a][b], x.far(a, b));
                }
                for (int k = 0; k < 3 && n.sides == 3 && n.upright(a, b); k++) {
                    KIT.due(of + "third " + a + " " + b + " " + k, n.third(a, b)[k], x.third(a, b, k));
                }
            }
        }
    }

    private static void compareChoices(String of, Random random, YesNoRays x, Naive n) {
        List<Integer> choices = n.choices();
        KIT.due(of + "choices", choices.size(), x.count(8));
        KIT.due(of + "count(9)", choices.isEmpty() ? 1 : 0, x.count(9));
        for (int i = 0; i < choices.size(); i += i < 20 ? 1 : 1 + random.nextInt(choices.size() / 8)) {
            KIT.due(of + "choice " + i, choices.get(i), x.choice(i));
        }
        KIT.dueThrow(of + "choice behind the last", "none", () -> x.choice(choices.size()));
        for (int r = 0; r < n.rays.length; r++) {
            if (Naive.has(n.in, r)) {
                int yes = 0;
                for (int c : choices) {
                    yes += c >> r & 1;
                }
                KIT.due(of + "having " + r + " yes", yes, x.having(r, 1));
                KIT.due(of + "having " + r + " no", choices.size() - yes, x.having(r, 0));
            }
        }
        for (int i = 0; i < 20; i++) {
            int yes = random.nextInt() & random.nextInt() & random.nextInt() & n.in;
            int no = random.nextInt() & random.nextInt() & n.in & (random.nextInt(4) == 0 ? -1 : ~yes);
            int[] forced = n.forced(yes, no);
            boolean clash = forced[2] == 1;
            KIT.due(of + "forced " + yes + " " + no, forced[2], x.forced(yes, no, 2));
            KIT.due(of + "forced yes " + yes + " " + no, clash ? YesNoRays.HIDDEN : forced[0], x.forced(yes, no, 0));
            KIT.due(of + "forced no " + yes + " " + no, clash ? YesNoRays.HIDDEN : forced[1], x.forced(yes, no, 1));
        }
    }

    private static void compareTree(String of, YesNoRays x, Naive n) {
        int[] tree = n.tree();
        for (int what = 0; what < 3; what++) {
            KIT.due(of + "tree " + what, tree[what], x.tree(what));
        }
    }

    private static void compareSpread(String of, YesNoRays x, Naive n) {
        int[] most = n.most();
        int[] apart = n.apart();
        for (int what = 0; what < 2; what++) {
            KIT.due(of + "most " + what, most[what], x.most(what));
            KIT.due(of + "apart " + what, apart[what], x.apart(what));
        }
        KIT.due(of + "hues", n.hues(), x.hues());
    }

    private static void compareSymmetries(String of, YesNoRays x, Naive n) {
        int[] symmetries = n.symmetries();
        int kinds = 0;
        for (int r = 0; r < n.rays.length; r++) {
            if (Naive.has(n.in, r)) {
                KIT.due(of + "alike " + r, symmetries[r], x.alike(r));
                kinds += Integer.numberOfTrailingZeros(symmetries[r]) == r ? 1 : 0;
            }
        }
        KIT.due(of + "symmetries", symmetries[n.rays.length], x.symmetries(0));
        KIT.due(of + "kinds", kinds, x.symmetries(1));
    }

    private static void compareParity(String of, YesNoRays x, Naive n) {
        List<Integer> parity = n.parity();
        KIT.due(of + "parity", parity.isEmpty() ? -1 : parity.size(), x.parity());
        for (int i = 0; i < parity.size(); i++) {
            KIT.due(of + "proof " + i, parity.get(i), x.proof(i));
        }
        KIT.dueThrow(of + "proof behind the last", "none", () -> x.proof(parity.size()));
        KIT.due(of + "even", n.even(), x.even());
    }
}
