/** Boundary cases of the promises 30 to 35: what is said, what is left out, taken back, undone. */
public final class ActEdgeTests {
    private final Kit kit;

    private ActEdgeTests(Kit kit) {
        this.kit = kit;
    }

    public static void main(String[] args) {
        Kit kit = new Kit("ActEdgeTests");
        all(kit);
        kit.end();
    }

    static void all(Kit kit) {
        ActEdgeTests tests = new ActEdgeTests(kit);
        kit.edge("Terms", "ACTS: a RAY is IN, OUT, the RULE told: the latest 20 can be UNDONE one by one, the latest first.",
                tests::latestTwenty);
        tests.sayings();
        tests.changes();
    }

    private void sayings() {
        kit.edge("Promise 30", "RAYS that are IN are SAID as a TEXT tells them, without blanks but one ahead of each "
                + "number, ; behind all: how many bytes.", this::say);
        kit.edge("Promise 31", "Byte i of what the latest say() SAID (as it was then, whatever came since);", this::said);
        kit.edge("Promise 31", "NONE: there is none such, nothing was SAID.", this::saidNone);
    }

    private void changes() {
        kit.edge("Promise 32", "An ACT: a RAY is IN (or OUT): whether it was.", this::keep);
        kit.edge("Promise 32", "NoSuchElementException: no such RAY.", this::keepNone);
        kit.edge("Promise 33", "An ACT: all RAYS but a set (bits) are OUT, those are IN: how many are.", this::only);
        kit.edge("Promise 33", "IllegalArgumentException: a RAY that there isn't.", this::onlyNot);
        kit.edge("Promise 34", "An ACT: the RULE becomes 0, 1: what it was.", this::rule);
        kit.edge("Promise 34", "IllegalArgumentException: another one.", this::noRule);
        kit.edge("Promise 35", "The latest ACT is UNDONE: how many still can be;", this::undo);
        kit.edge("Promise 35", "NONE: none can.", this::undoNone);
    }

    /** An object after n acts, act i being that the set i is in. */
    private static YesNoRays acted(int n) {
        YesNoRays x = Kit.of(Kit.apart());
        for (int i = 1; i <= n; i++) {
            x.only(i);
        }
        return x;
    }

    /** All choices are there: so the last one is the set that is in. */
    private static int inside(YesNoRays x) {
        return x.choice(x.count(8) - 1);
    }

    private void latestTwenty() {
        for (int n : new int[] {0, 1, 19, 20, 21, 22, 39, 40, 41, 60, 61}) {
            YesNoRays x = acted(n);
            int kept = Math.min(n, 20);
            kit.due("kept of " + n, kept, x.count(6));
            for (int i = 1; i <= kept; i++) {
                kit.due("undo " + i + " of " + n, kept - i, x.undo());
                kit.due("what is in then", n == i ? Kit.ALL : n - i, inside(x));
            }
            kit.due("no more of " + n, YesNoRays.NONE, x.undo());
            kit.due("what stays of " + n, n > 20 ? n - 20 : Kit.ALL, inside(x));
        }
        YesNoRays x = acted(20);
        for (int i = 0; i < 5; i++) {
            x.undo();
        }
        x.only(100);
        x.only(200);
        kit.due("kept", 17, x.count(6));
        x.undo();
        kit.due("the latest is undone first", 100, inside(x));
        x.undo();
        kit.due("then the one ahead of it", 15, inside(x));
        kit.due("kept still", 15, x.count(6));
    }

    private void said(String of, YesNoRays x, String due) {
        kit.due("bytes of " + of, due.length(), x.say());
        kit.due(of, due, Kit.saidText(x));
    }

    private void say() {
        said("a new one", new YesNoRays(), "sides 3;");
        said("no rays", Kit.of(" sides\n04 ;"), "sides 4;");
        said("five", Kit.of(Kit.FIVE), Kit.FIVE);
        said("18", Kit.of(Kit.CABELLO), Kit.CABELLO);
        said("blanks, 0 ahead, -0", Kit.of("sides 3 ;ray-9 - 08 -0;\nray\n0 0 009 ;"), "sides 3;ray -9 -8 0;ray 0 0 9;");
        said("times something", Kit.of("sides 3;ray 2 4 6;"), "sides 3;ray 2 4 6;");
        YesNoRays x = Kit.of(Kit.FIVE);
        x.only(1 | 16);
        said("those that are in", x, "sides 3;ray 1 0 0;ray 1 -1 0;");
        x.only(0);
        said("none in", x, "sides 3;");
        said("the longest", Kit.of(longest()), longest());
        kit.due("its length", 328, Kit.of(longest()).say());
        YesNoRays y = Kit.of(longest());
        y.keep(19, false);
        said("all but the last", y, longest().substring(0, 312));
    }

    private static String longest() {
        StringBuilder text = new StringBuilder("sides 4;");
        for (int i = 0; i < 20; i++) {
            text.append("ray -9 -8 -").append(1 + i % 9).append(" -").append(1 + i / 9).append(';');
        }
        return text.toString();
    }

    private void said() {
        YesNoRays x = Kit.of(Kit.FIVE);
        x.say();
        kit.due("the first byte", (int) 's', x.said(0));
        kit.due("the last byte", (int) ';', x.said(58));
        kit.due("the last but one", (int) '0', x.said(57));
        x.keep(0, false);
        x.rule(1);
        x.undo();
        Kit.ask(x, "many x=1");
        kit.due("acts came since", Kit.FIVE, Kit.saidText(x));
        Kit.rays(x, "sides 4;ray 1 2 3 4;");
        kit.due("other rays came since", Kit.FIVE, Kit.saidText(x));
        Kit.rays(x, "sides 5;");
        kit.due("a fault came since", Kit.FIVE, Kit.saidText(x));
        x.say();
        kit.due("the latest alone", "sides 4;ray 1 2 3 4;", Kit.saidText(x));
    }

    private void saidNone() {
        YesNoRays x = Kit.of(Kit.FIVE);
        for (int i : new int[] {0, 1, -1, 399, 400, Integer.MIN_VALUE, Integer.MAX_VALUE}) {
            kit.due("nothing was said, " + i, YesNoRays.NONE, x.said(i));
        }
        x.say();
        kit.due("the last", (int) ';', x.said(58));
        for (int i : new int[] {59, 60, -1, 399, 400, Integer.MIN_VALUE, Integer.MAX_VALUE}) {
            kit.due("none such, " + i, YesNoRays.NONE, x.said(i));
        }
        x.only(0);
        x.say();
        kit.due("the last of fewer", (int) ';', x.said(7));
        kit.due("behind the last of fewer", YesNoRays.NONE, x.said(8));
        YesNoRays y = Kit.of(longest());
        y.say();
        kit.due("the last of the longest", (int) ';', y.said(327));
        kit.due("behind the last of the longest", YesNoRays.NONE, y.said(328));
    }

    private void keep() {
        YesNoRays x = Kit.of(Kit.apart());
        for (int ray : new int[] {0, 10, 19}) {
            kit.due("in, kept in", true, x.keep(ray, true));
            kit.due("in, left out", true, x.keep(ray, false));
            kit.due("it is out", Kit.ALL & ~(1 << ray), inside(x));
            kit.due("out, left out", false, x.keep(ray, false));
            kit.due("out, taken in", false, x.keep(ray, true));
            kit.due("it is in", Kit.ALL, inside(x));
        }
        kit.due("each is an act", 12, x.count(6));
    }

    private void keepNone() {
        for (String text : new String[] {"sides 3;", Kit.FIVE, Kit.apart()}) {
            YesNoRays x = Kit.of(text);
            int rays = x.count(1);
            for (int ray : new int[] {rays, 20, 31, 32, 33, 64, -1, -32, Integer.MIN_VALUE, Integer.MAX_VALUE}) {
                kit.dueThrow("keep " + ray + " out", "none", () -> x.keep(ray, false));
                kit.dueThrow("keep " + ray + " in", "none", () -> x.keep(ray, true));
            }
            kit.due("no acts by these", 0, x.count(6));
            kit.due("all are in still", rays, x.count(2));
        }
    }

    private void only() {
        YesNoRays x = Kit.of(Kit.apart());
        int[] sets = {0, Kit.ALL, 1, 1 << 19, 0x55555, 0xaaaaa, 0xaaaaa};
        int[] due = {0, 20, 1, 1, 10, 10, 10};
        for (int i = 0; i < sets.length; i++) {
            kit.due("only " + sets[i], due[i], x.only(sets[i]));
            kit.due("in are " + sets[i], sets[i], inside(x));
            kit.due("acts", i + 1, x.count(6));
        }
        kit.due("nothing of no rays", 0, new YesNoRays().only(0));
    }

    private void onlyNot() {
        for (String text : new String[] {"sides 3;", Kit.FIVE, Kit.apart()}) {
            YesNoRays x = Kit.of(text);
            int rays = x.count(1);
            int all = (1 << rays) - 1;
            for (int set : new int[] {all + 1, 1 << 20, 1 << 30, 1 << 31, all | 1 << 31, -1, ~all, Integer.MAX_VALUE}) {
                kit.dueThrow("only " + set, "bad", () -> x.only(set));
            }
            kit.due("no acts by these", 0, x.count(6));
            kit.due("all are in still", rays, x.count(2));
            kit.due("all of them", rays, x.only(all));
        }
    }

    private void rule() {
        YesNoRays x = Kit.of(Kit.FIVE);
        x.keep(2, false);
        kit.due("0 to 0", 0, x.rule(0));
        kit.due("0 to 1", 0, x.rule(1));
        kit.due("by rule 1", 16, x.count(8));
        kit.due("1 to 1", 1, x.rule(1));
        kit.due("1 to 0", 1, x.rule(0));
        kit.due("by rule 0", 9, x.count(8));
        kit.due("each is an act", 5, x.count(6));
        kit.due("without rays", 0, new YesNoRays().rule(1));
    }

    private void noRule() {
        YesNoRays x = Kit.of(Kit.FIVE);
        x.rule(1);
        for (int v : new int[] {-1, 2, 3, 32, Integer.MIN_VALUE, Integer.MAX_VALUE}) {
            kit.dueThrow("rule " + v, "bad", () -> x.rule(v));
        }
        kit.due("the rule is left", 1, x.count(5));
        kit.due("no acts by these", 1, x.count(6));
    }

    private void undo() {
        YesNoRays x = Kit.of(Kit.apart());
        x.keep(19, false);
        x.only(7);
        x.rule(1);
        x.keep(0, true);
        kit.due("an act by which nothing changed", 3, x.undo());
        kit.due("nothing changes then", 7, inside(x));
        kit.due("the rule", 2, x.undo());
        kit.due("it is 0", 0, x.count(5));
        kit.due("only", 1, x.undo());
        kit.due("all but 19 are in", Kit.ALL & ~(1 << 19), inside(x));
        kit.due("keep", 0, x.undo());
        kit.due("all are in", Kit.ALL, inside(x));
        kit.due("to undo is no act", 0, x.count(6));
        x.rule(1);
        x.only(1);
        x.rule(0);
        kit.due("a rule that wasn't the first", 2, x.undo());
        kit.due("it is 1", 1, x.count(5));
        kit.due("what is in is left", 1, inside(x));
    }

    private void undoNone() {
        YesNoRays x = new YesNoRays();
        kit.due("at first", YesNoRays.NONE, x.undo());
        Kit.rays(x, Kit.FIVE);
        kit.due("behind rays", YesNoRays.NONE, x.undo());
        x.rule(1);
        kit.dueThrow("a call that is refused is no act", "bad", () -> x.rule(2));
        kit.due("one act", 0, x.undo());
        kit.due("no more", YesNoRays.NONE, x.undo());
        kit.due("nor then", YesNoRays.NONE, x.undo());
        kit.due("nothing changed", 5, x.count(2));
        kit.due("nothing is kept", 0, x.count(6));
        x.only(1);
        Kit.rays(x, "sides 5;");
        kit.due("behind a fault acts are kept", 0, x.undo());
        x.only(1);
        Kit.rays(x, Kit.FIVE);
        kit.due("behind rays none are", YesNoRays.NONE, x.undo());
    }
}
