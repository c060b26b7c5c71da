import java.util.ArrayDeque;
import java.util.ArrayList;
import java.util.Deque;
import java.util.List;
import java.util.Random;

/** Runs of 512 drawn calls on one object (by fixed seeds), each answer against a plain model of the object. */
public final class RunTests {
    private static final Kit KIT = new Kit("RunTests");

    private final Random random;
    private final YesNoRays x = new YesNoRays();
    private final Deque<int[]> acts = new ArrayDeque<>();
    private Naive now = new Naive(3, new int[0][], 0, 0);
    private int fault = -1;
    private String said = "";

    private RunTests(int seed) {
        random = new Random(seed);
    }

    public static void main(String[] args) {
        for (int seed = 0; seed < 120; seed++) {
            RunTests run = new RunTests(seed);
            if (seed % 4 != 0) {
                run.tell("run " + seed + " at first ");
            }
            for (int i = 0; i < 512; i++) {
                run.step("run " + seed + " call " + i + " ");
            }
        }
        KIT.end();
    }

    private void step(String of) {
        int kind = random.nextInt(36);
        if (kind < 3) {
            change(of);
        } else if (kind == 3 && random.nextInt(2) == 0) {
            tell(of);
        } else if (kind < 8) {
            goBack(of);
        } else if (kind < 14) {
            askSets(of);
        } else if (kind < 24) {
            askRays(of);
        } else {
            askCounts(of);
        }
    }

    private int someRay() {
        return random.nextInt(now.rays.length + 3) - 1;
    }

    private boolean isTold(int ray) {
        return ray >= 0 && ray < now.rays.length;
    }

    private boolean isIn(int ray) {
        return isTold(ray) && Naive.has(now.in, ray);
    }

    private void become(int in, int rule) {
        acts.addLast(new int[] {now.in, now.rule});
        if (acts.size() > 20) {
            acts.removeFirst();
        }
        now = new Naive(now.sides, now.rays, in, rule);
    }

    private void change(String of) {
        int kind = random.nextInt(3);
        if (kind == 0) {
            int ray = someRay();
            boolean in = random.nextBoolean();
            if (!isTold(ray)) {
                KIT.dueThrow(of + "keep " + ray, "none", () -> x.keep(ray, in));
                return;
            }
            KIT.due(of + "keep " + ray, isIn(ray), x.keep(ray, in));
            become(in ? now.in | 1 << ray : now.in & ~(1 << ray), now.rule);
        } else if (kind == 1) {
            int set = (random.nextInt() | random.nextInt()) & (1 << now.rays.length + random.nextInt(2)) - 1;
            if (set >> now.rays.length != 0) {
                KIT.dueThrow(of + "only " + set, "bad", () -> x.only(set));
                return;
            }
            KIT.due(of + "only " + set, Integer.bitCount(set), x.only(set));
            become(set, now.rule);
        } else {
            int rule = random.nextInt(4) - 1;
            if (rule < 0 || rule > 1) {
                KIT.dueThrow(of + "rule " + rule, "bad", () -> x.rule(rule));
                return;
            }
            KIT.due(of + "rule " + rule, now.rule, x.rule(rule));
            become(now.in, rule);
        }
    }

    private void goBack(String of) {
        if (random.nextInt(3) != 0) {
            return;
        }
        int due = acts.size() - 1;
        if (due >= 0) {
            int[] was = acts.removeLast();
            now = new Naive(now.sides, now.rays, was[0], was[1]);
        }
        KIT.due(of + "undo", due, x.undo());
    }

    private void tell(String of) {
        List<int[]> rays = new ArrayList<>();
        int sides = 3 + random.nextInt(2);
        int n = random.nextInt(9);
        for (int tries = 0; rays.size() < n && tries < 100; tries++) {
            int[] row = new int[sides];
            boolean fits = false;
            for (int k = 0; k < sides; k++) {
                row[k] = random.nextInt(3) - 1;
                fits |= row[k] != 0;
            }
            for (int[] r : rays) {
                fits &= !Naive.sameRay(r, row);
            }
            if (fits) {
                rays.add(row);
            }
        }
        Naive next = new Naive(sides, rays.toArray(new int[0][]), (1 << rays.size()) - 1, 0);
        if (random.nextInt(4) == 0) {
            KIT.due(of + "a wrong text", -11, Kit.rays(x, next.said() + "ray"));
            fault = next.said().length() + 3;
            return;
        }
        KIT.due(of + "rays", rays.size(), Kit.rays(x, next.said()));
        now = next;
        fault = -1;
        acts.clear();
    }

    private void askSets(String of) {
        int yes = random.nextInt() & random.nextInt() & (1 << now.rays.length + random.nextInt(2)) - 1;
        int no = random.nextInt() & random.nextInt() & (1 << now.rays.length) - 1;
        int what = random.nextInt(5) - 1;
        if (what < 0 || what > 2) {
            KIT.dueThrow(of + "forced", "none", () -> x.forced(yes, no, what));
        } else if (((yes | no) & ~now.in) != 0) {
            KIT.dueThrow(of + "forced " + yes + " " + no, "bad", () -> x.forced(yes, no, what));
        } else {
            int[] forced = now.forced(yes, no);
            int due = what < 2 && forced[2] == 1 ? YesNoRays.HIDDEN : forced[what];
            KIT.due(of + "forced " + yes + " " + no + " " + what, due, x.forced(yes, no, what));
        }
        if ((yes & ~now.in) != 0) {
            KIT.dueThrow(of + "isRefused " + yes, "bad", () -> x.isRefused(yes));
        } else {
            KIT.due(of + "isRefused " + yes, now.refused(yes), x.isRefused(yes));
        }
    }

    private void askRays(String of) {
        int a = someRay();
        int b = someRay();
        int k = random.nextInt(5) - 1;
        if (!isTold(a)) {
            KIT.dueThrow(of + "isIn " + a, "none", () -> x.isIn(a));
            KIT.dueThrow(of + "meets " + a, "none", () -> x.meets(a));
            KIT.dueThrow(of + "product " + a, "none", () -> x.product(a, b));
            return;
        }
        KIT.due(of + "isIn " + a, isIn(a), x.isIn(a));
        KIT.due(of + "meets " + a, now.meets(a), x.meets(a));
        if (k < 0 || k >= now.sides) {
            KIT.dueThrow(of + "ray " + a + " " + k, "none", () -> x.ray(a, k));
        } else {
            KIT.due(of + "ray " + a + " " + k, now.rays[a][k], x.ray(a, k));
        }
        if (!isIn(a) || !isIn(b)) {
            KIT.dueThrow(of + "far " + a + " " + b, "none", () -> x.far(a, b));
            KIT.dueThrow(of + "third " + a + " " + b, "none", () -> x.third(a, b, 0));
            return;
        }
        KIT.due(of + "far " + a + " " + b, now.far()[a][b], x.far(a, b));
        KIT.due(of + "alike " + a, now.symmetries()[a], x.alike(a));
        if (now.sides == 3 && now.upright(a, b) && k >= 0 && k < 3) {
            KIT.due(of + "third " + a + " " + b + " " + k, now.third(a, b)[k], x.third(a, b, k));
        } else {
            KIT.dueThrow(of + "third " + a + " " + b + " " + k, "none", () -> x.third(a, b, k));
        }
        int yes = 0;
        for (int c : now.choices()) {
            yes += c >> a & 1;
        }
        KIT.due(of + "having " + a, yes, x.having(a, 1));
    }

    private void askCounts(String of) {
        List<Integer> choices = now.choices();
        switch (random.nextInt(12)) {
            case 0: KIT.due(of + "choices", choices.size(), x.count(8)); break;
            case 1: KIT.due(of + "frames", now.frames.size(), x.count(4)); break;
            case 2: KIT.due(of + "acts", acts.size(), x.count(6)); break;
            case 3: KIT.due(of + "rule", now.rule, x.count(5)); break;
            case 4: KIT.due(of + "tree", now.tree()[1], x.tree(1)); break;
            case 5: KIT.due(of + "most", now.most()[1], x.most(1)); break;
            case 6: KIT.due(of + "apart", now.apart()[1], x.apart(1)); break;
            case 7: KIT.due(of + "hues", now.hues(), x.hues()); break;
            case 8: KIT.due(of + "fault", fault, x.fault()); break;
            case 9: askSaid(of); break;
            case 10: askTape(of, choices); break;
            default: KIT.due(of + "lacking", now.lacking()[2], x.lacking(2)); break;
        }
        if (!choices.isEmpty()) {
            int k = random.nextInt(choices.size());
            KIT.due(of + "choice " + k, choices.get(k), x.choice(k));
        }
        KIT.due(of + "even", now.even(), x.even());
        KIT.due(of + "parts", now.parts(), x.parts());
    }

    private void askSaid(String of) {
        if (random.nextBoolean()) {
            said = now.said();
            KIT.due(of + "say", said.length(), x.say());
        }
        KIT.due(of + "said", said, Kit.saidText(x));
    }

    private void askTape(String of, List<Integer> choices) {
        int due = choices.isEmpty() ? 0 : Integer.bitCount(choices.get(0));
        KIT.due(of + "ask yes", due, Kit.ask(x, "many yes=1"));
        KIT.due(of + "tape", 0, x.count(7));
        fault = -1;
    }
}
