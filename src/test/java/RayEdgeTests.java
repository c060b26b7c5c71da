import java.util.function.IntFunction;

/** Boundary cases of the promises 5 to 29: what is asked of the rays. */
public final class RayEdgeTests {
    private final Kit kit;

    private RayEdgeTests(Kit kit) {
        this.kit = kit;
    }

    public static void main(String[] args) {
        Kit kit = new Kit("RayEdgeTests");
        all(kit);
        kit.end();
    }

    static void all(Kit kit) {
        RayEdgeTests tests = new RayEdgeTests(kit);
        tests.countsAndRays();
        tests.framesAndChoices();
        tests.treesAndRefused();
        tests.paritiesAndSymmetries();
        tests.couplesAndSets();
    }

    private void countsAndRays() {
        kit.edge("Promise 5", "0 D, 1 RAYS, 2 those that are IN, 3 couples that are UPRIGHT, 4 FRAMES, 5 RULE, 6 ACTS that "
                + "are kept, 7 bytes of the tape, 8 CHOICES, 9 whether all that are IN are REFUSED (1, 0).", this::counts);
        kit.edge("Promise 5", "NoSuchElementException: another what.", () -> whats("count", 9, x -> x::count));
        kit.edge("Promise 6", "Number k (0 to D - 1) of a RAY.", this::numbers);
        kit.edge("Promise 6", "NoSuchElementException: no such RAY, k.", this::noNumbers);
        kit.edge("Promise 7", "Whether a RAY is IN.", this::isIn);
        kit.edge("Promise 7", "NoSuchElementException: no such RAY.", () -> noRays("isIn", x -> x::isIn));
        kit.edge("Promise 8", "What the products of two RAYS side by side come to (IN or OUT).", this::products);
        kit.edge("Promise 8", "NoSuchElementException: no such RAYS.", this::noProducts);
        kit.edge("Promise 9", "RAYS that are UPRIGHT to a RAY (bits); 0, if it is OUT.", this::meets);
        kit.edge("Promise 9", "NoSuchElementException: no such RAY.", () -> noRays("meets", x -> x::meets));
    }

    private void framesAndChoices() {
        kit.edge("Promise 10", "The RAYS of a FRAME (bits).", this::frame);
        kit.edge("Promise 10", "NoSuchElementException: no such FRAME.", this::noFrame);
        kit.edge("Promise 11", "CHOICE k (0 on).", this::choice);
        kit.edge("Promise 11", "NoSuchElementException: there is none such.", this::noChoice);
        kit.edge("Promise 12", "Whether some CHOICE has a RAY as yes (1, 0 for no): in how many.", this::having);
        kit.edge("Promise 12", "NoSuchElementException: no such RAY that is IN, yes isn't 0, 1.", this::havingNot);
        kit.edge("Promise 13", "FORCED by sets of RAYS that are yes, that are no (bits): 0 those that are yes then, 1 no "
                + "(bits), 2 whether there is a CLASH (1, 0; 0 and 1 are HIDDEN then).", this::forced);
        kit.edge("Promise 13", "NoSuchElementException: another what.", () -> whats("forced", 2, x ->
                what -> x.forced(0, 0, what)));
        kit.edge("Promise 13", "IllegalArgumentException (behind that): a set has a RAY that isn't IN.", this::forcedNot);
    }

    private void treesAndRefused() {
        kit.edge("Promise 14", "Of THE TREE: 0 LEAFS, 1 DEPTH, 2 CLASHES (LEAFS with one).", this::tree);
        kit.edge("Promise 14", "NoSuchElementException: another what.", () -> whats("tree", 2, x -> x::tree));
        kit.edge("Promise 15", "SPARED (bits), from 0 on, from the last one on (back).", this::spared);
        kit.edge("Promise 16", "FEWEST (bits; 0: nothing is REFUSED).", this::fewest);
        kit.edge("Promise 17", "Whether a set of RAYS (bits) is REFUSED by itself (FRAMES of it alone).",
                this::isRefused);
        kit.edge("Promise 17", "IllegalArgumentException: it has a RAY that isn't IN.", () -> noSets("isRefused", x ->
                x::isRefused));
        kit.edge("Promise 18", "MOST (what 0), the first such set (1).", this::most);
        kit.edge("Promise 18", "NoSuchElementException: another what.", () -> whats("most", 1, x -> x::most));
    }

    private void paritiesAndSymmetries() {
        kit.edge("Promise 19", "LEAST PARITY: of how many FRAMES (NONE: there is none).", this::parity);
        kit.edge("Promise 20", "FRAME i (0 on, rising) of LEAST PARITY.", this::proof);
        kit.edge("Promise 20", "NoSuchElementException: there is none such.", this::noProof);
        kit.edge("Promise 21", "Of the first 40 FRAMES: how many sets of them (2 to the power of this) have each RAY "
                + "evenly often.", this::even);
        kit.edge("Promise 22", "SYMMETRIES: how many (what 0); how many kinds of RAYS that are ALIKE there are (1).",
                this::symmetries);
        kit.edge("Promise 22", "NoSuchElementException: another what.", () -> whats("symmetries", 1, x -> x::symmetries));
        kit.edge("Promise 23", "RAYS that are ALIKE to a RAY, itself, too (bits).", this::alike);
        kit.edge("Promise 23", "NoSuchElementException: no such RAY that is IN.", () -> noneIn("alike", x -> x::alike));
    }

    private void couplesAndSets() {
        kit.edge("Promise 24", "Number k (0 to 2) of THIRD.", this::third);
        kit.edge("Promise 24", "NoSuchElementException: no such RAYS that are IN, they aren't UPRIGHT, D is 4, no such k.",
                this::noThird);
        kit.edge("Promise 25", "LACKING: how many couples (what 0), the first one, 20 times the lesser RAY and the other "
                + "one (1; NONE: none), how many of them have a THIRD that is told, but OUT (2; 0, if D is 4).",
                this::lacking);
        kit.edge("Promise 25", "NoSuchElementException: another what.", () -> whats("lacking", 2, x -> x::lacking));
        kit.edge("Promise 26", "PARTS: how many.", this::parts);
        kit.edge("Promise 27", "FAR from a RAY to another one (0 to itself); NONE: it doesn't come there.", this::far);
        kit.edge("Promise 27", "NoSuchElementException: no such RAYS that are IN.", this::notFar);
        kit.edge("Promise 28", "APART (what 0), the first such set (1; the least as a number).", this::apart);
        kit.edge("Promise 28", "NoSuchElementException: another what.", () -> whats("apart", 1, x -> x::apart));
        kit.edge("Promise 29", "HUES (0 without RAYS that are IN).", this::hues);
    }

    /** A call with one number, of an object. */
    private interface Of {
        IntFunction<Object> on(YesNoRays x);
    }

    /** Three objects: without rays, with some, and with as many as there can be. */
    private static YesNoRays[] objects() {
        return new YesNoRays[] {new YesNoRays(), Kit.of(Kit.FIVE), Kit.of(Kit.ELEVEN)};
    }

    private void throwing(String call, String want, IntFunction<Object> run, int... wrong) {
        for (int v : wrong) {
            kit.dueThrow(call + " " + v, want, () -> run.apply(v));
        }
    }

    private void answers(String call, IntFunction<Object> run, int from, int to) {
        for (int v = from; v <= to; v++) {
            int k = v;
            kit.due(call + " " + v + " answers", true, Kit.thrown(() -> run.apply(k)).startsWith("nothing thrown"));
        }
    }

    private void whats(String call, int last, Of of) {
        for (YesNoRays x : objects()) {
            answers(call, of.on(x), 0, last);
            throwing(call, "none", of.on(x), -1, last + 1, last + 2, 10, 32, 256, 1 << 16, Integer.MIN_VALUE,
                    Integer.MAX_VALUE);
        }
    }

    /** Rays that aren't told; those whose bit, were it taken, would be that of another ray, too. */
    private void noRays(String call, Of of) {
        for (YesNoRays x : objects()) {
            answers(call, of.on(x), 0, x.count(1) - 1);
            throwing(call, "none", of.on(x), x.count(1), 20, 21, 31, 32, 33, 64, 256, -1, -32, Integer.MIN_VALUE,
                    Integer.MAX_VALUE);
        }
    }

    private void noneIn(String call, Of of) {
        noRays(call, of);
        for (YesNoRays x : objects()) {
            for (int ray = 0; ray < x.count(1); ray++) {
                x.keep(ray, false);
                throwing(call + " of one that is out,", "none", of.on(x), ray);
                x.keep(ray, true);
                answers(call + " of one that is in again,", of.on(x), ray, ray);
            }
        }
    }

    private void noSets(String call, Of of) {
        for (YesNoRays x : objects()) {
            int all = (1 << x.count(1)) - 1;
            answers(call, of.on(x), 0, 0);
            answers(call, of.on(x), all, all);
            throwing(call, "bad", of.on(x), all + 1, 1 << 20, 1 << 31, 1 << 30, -1, ~all, all | 1 << 31,
                    Integer.MAX_VALUE);
            for (int ray = 0; ray < x.count(1); ray++) {
                x.keep(ray, false);
                throwing(call + " of one that is out,", "bad", of.on(x), 1 << ray, all);
                answers(call + " of the others,", of.on(x), all & ~(1 << ray), all & ~(1 << ray));
                x.keep(ray, true);
            }
        }
    }

    private void counts(String of, YesNoRays x, int... due) {
        for (int what = 0; what < 10; what++) {
            kit.due("count " + what + " of " + of, due[what], x.count(what));
        }
    }

    private void counts() {
        counts("none told", new YesNoRays(), 3, 0, 0, 0, 0, 0, 0, 0, 1, 0);
        YesNoRays x = Kit.of(Kit.CABELLO);
        counts("all refused", x, 4, 18, 18, 63, 9, 0, 0, 0, 0, 1);
        x.only(0);
        counts("none in", x, 4, 18, 0, 0, 0, 0, 1, 0, 1, 0);
        YesNoRays y = Kit.of(Kit.apart());
        y.rule(1);
        Kit.feed(y, Kit.bytes(" ".repeat(400)));
        counts("all choices", y, 3, 20, 20, 0, 0, 1, 1, 400, 1 << 20, 0);
        for (int i = 0; i < 18; i++) {
            y.keep(i, false);
        }
        counts("19 acts", y, 3, 20, 2, 0, 0, 1, 19, 400, 4, 0);
        y.keep(18, false);
        counts("20 acts", y, 3, 20, 1, 0, 0, 1, 20, 400, 2, 0);
        y.keep(19, false);
        counts("21 acts", y, 3, 20, 0, 0, 0, 1, 20, 400, 1, 0);
        counts("20 refused", Kit.of(Kit.ELEVEN), 4, 20, 20, 75, 11, 0, 0, 0, 0, 1);
    }

    private void numbers() {
        YesNoRays x = Kit.of("sides 3;ray -9 8 7;ray 6 5 -4;");
        int[] due = {-9, 8, 7, 6, 5, -4};
        for (int i = 0; i < 6; i++) {
            kit.due("number " + i, due[i], x.ray(i / 3, i % 3));
        }
        kit.due("the fourth", -9, Kit.of("sides 4;ray 0 0 0 -9;").ray(0, 3));
        kit.due("the last of 20", 0, Kit.of(Kit.ELEVEN).ray(19, 3));
        x.keep(1, false);
        kit.due("of one that is out", -4, x.ray(1, 2));
        kit.due("as it was told, times something", 4, Kit.of("sides 3;ray 4 2 2;").ray(0, 0));
    }

    private void noNumbers() {
        noRays("ray", x -> ray -> x.ray(ray, 0));
        YesNoRays x = Kit.of(Kit.FIVE);
        answers("number", k -> x.ray(0, k), 0, 2);
        throwing("number", "none", k -> x.ray(0, k), 3, 4, -1, 32, Integer.MIN_VALUE, Integer.MAX_VALUE);
        throwing("number of the last", "none", k -> x.ray(4, k), 3, -1);
        YesNoRays y = Kit.of(Kit.ELEVEN);
        answers("number of 4", k -> y.ray(19, k), 0, 3);
        throwing("number of 4", "none", k -> y.ray(19, k), 4, 5, -1, Integer.MIN_VALUE, Integer.MAX_VALUE);
        kit.dueThrow("neither ray nor k", "none", () -> y.ray(20, 4));
    }

    private void isIn() {
        YesNoRays x = Kit.of(Kit.ELEVEN);
        x.only(1 | 1 << 19);
        kit.due("the first", true, x.isIn(0));
        kit.due("the last", true, x.isIn(19));
        kit.due("the second", false, x.isIn(1));
        kit.due("the last but one", false, x.isIn(18));
    }

    private void products() {
        YesNoRays x = Kit.of("sides 4;ray 9 9 9 9;ray -9 -9 -9 -8;ray 9 -9 9 -9;");
        kit.due("the greatest", 324, x.product(0, 0));
        kit.due("the least", -315, x.product(0, 1));
        kit.due("the other way about", -315, x.product(1, 0));
        kit.due("none", 0, x.product(0, 2));
        x.only(0);
        kit.due("of two that are out", -315, x.product(0, 1));
        x.keep(0, true);
        kit.due("of one that is out", -315, x.product(1, 0));
    }

    private void noProducts() {
        noRays("product, the first", x -> ray -> x.product(ray, 0));
        noRays("product, the second", x -> ray -> x.product(0, ray));
        noRays("product, both", x -> ray -> x.product(ray, ray));
    }

    private void meets() {
        YesNoRays x = Kit.of(Kit.FIVE);
        int[] due = {6, 5, 27, 20, 12};
        for (int ray = 0; ray < 5; ray++) {
            kit.due("ray " + ray, due[ray], x.meets(ray));
        }
        x.keep(2, false);
        kit.due("one that is out", 0, x.meets(2));
        kit.due("not one that is out", 2, x.meets(0));
        x.rule(1);
        kit.due("by rule 1, too", 2, x.meets(0));
        kit.due("the last of 20", 1 << 18, Kit.of(Kit.PATH).meets(19));
        kit.due("none", 0, Kit.of(Kit.apart()).meets(19));
    }

    private void frame() {
        YesNoRays x = Kit.of(Kit.FIVE);
        kit.due("the first", 7, x.frame(0));
        kit.due("the second", 28, x.frame(1));
        YesNoRays y = Kit.of(Kit.ELEVEN);
        kit.due("of 20 rays, the last", 4, Integer.bitCount(y.frame(10)));
        x.keep(0, false);
        kit.due("the first of those that are in", 28, x.frame(0));
    }

    private void noFrame() {
        for (YesNoRays x : objects()) {
            answers("frame", x::frame, 0, x.count(4) - 1);
            throwing("frame", "none", x::frame, x.count(4), 11, 40, 300, -1, Integer.MIN_VALUE, Integer.MAX_VALUE);
        }
        YesNoRays x = Kit.of(Kit.FIVE);
        x.keep(0, false);
        throwing("frame with one out", "none", x::frame, 1);
        x.keep(2, false);
        throwing("frame with two out", "none", x::frame, 0);
    }

    private void choice() {
        YesNoRays x = Kit.of(Kit.FIVE);
        kit.due("the first", 4, x.choice(0));
        kit.due("the last", 18, x.choice(4));
        kit.due("of no rays", 0, new YesNoRays().choice(0));
        kit.due("the last of all", Kit.ALL, Kit.of(Kit.apart()).choice(Kit.ALL));
        YesNoRays one = Kit.of("sides 3;ray 1 2 3;");
        kit.due("no", 0, one.choice(0));
        kit.due("yes", 1, one.choice(1));
    }

    private void noChoice() {
        for (YesNoRays x : objects()) {
            throwing("choice", "none", x::choice, x.count(8), -1, 1 << 20, Integer.MIN_VALUE, Integer.MAX_VALUE);
        }
        YesNoRays all = Kit.of(Kit.apart());
        throwing("choice of all sets", "none", all::choice, 1 << 20, -1);
        YesNoRays refused = Kit.of(Kit.CABELLO);
        throwing("choice of a refused set", "none", refused::choice, 0);
        refused.keep(0, false);
        answers("choice with one out", refused::choice, 0, refused.count(8) - 1);
        throwing("choice with one out", "none", refused::choice, refused.count(8));
    }

    private void having() {
        YesNoRays x = Kit.of(Kit.FIVE);
        int[] due = {2, 2, 1, 2, 2};
        for (int ray = 0; ray < 5; ray++) {
            kit.due("yes " + ray, due[ray], x.having(ray, 1));
            kit.due("no " + ray, 5 - due[ray], x.having(ray, 0));
        }
        YesNoRays all = Kit.of(Kit.apart());
        kit.due("half of all", 1 << 19, all.having(19, 1));
        kit.due("the other half", 1 << 19, all.having(0, 0));
        YesNoRays never = Kit.of(Kit.NEVER_YES);
        kit.due("there are choices", true, never.count(8) > 0);
        kit.due("none of them has ray 0 as yes", 0, never.having(0, 1));
        kit.due("all of them have it as no", never.count(8), never.having(0, 0));
        YesNoRays bug = Kit.of(Kit.BUG);
        kit.due("two that are never yes together", 1, bug.forced(3, 0, 2));
        kit.due("but each by itself", true, bug.having(0, 1) > 0 && bug.having(1, 1) > 0);
        YesNoRays refused = Kit.of(Kit.ELEVEN);
        kit.due("none, yes", 0, refused.having(19, 1));
        kit.due("none, no", 0, refused.having(19, 0));
    }

    private void havingNot() {
        noneIn("having, yes,", x -> ray -> x.having(ray, 1));
        noneIn("having, no,", x -> ray -> x.having(ray, 0));
        YesNoRays x = Kit.of(Kit.FIVE);
        answers("having as", yes -> x.having(0, yes), 0, 1);
        throwing("having as", "none", yes -> x.having(0, yes), -1, 2, 3, 32, Integer.MIN_VALUE, Integer.MAX_VALUE);
        kit.dueThrow("neither", "none", () -> x.having(5, 2));
    }

    private void forced(YesNoRays x, int yes, int no, int... due) {
        for (int what = 0; what < 3; what++) {
            kit.due("forced " + yes + " " + no + " " + what, due[what], x.forced(yes, no, what));
        }
    }

    private void forced() {
        YesNoRays x = Kit.of(Kit.FIVE);
        int hidden = YesNoRays.HIDDEN;
        forced(x, 0, 0, 0, 0, 0);
        forced(x, 1, 0, 1, 6, 0);
        forced(x, 1, 8, 17, 14, 0);
        forced(x, 4, 27, 4, 27, 0);
        forced(x, 4, 4, hidden, hidden, 1);
        forced(x, 31, 0, hidden, hidden, 1);
        forced(x, 0, 31, hidden, hidden, 1);
        forced(x, 31, 31, hidden, hidden, 1);
        forced(new YesNoRays(), 0, 0, 0, 0, 0);
        YesNoRays all = Kit.of(Kit.apart());
        forced(all, Kit.ALL, 0, Kit.ALL, 0, 0);
        forced(all, 0, Kit.ALL, 0, Kit.ALL, 0);
        forced(all, 1 << 19, 1, 1 << 19, 1, 0);
        forced(all, 1 << 19, 1 << 19, hidden, hidden, 1);
        YesNoRays path = Kit.of(Kit.PATH);
        forced(path, 1 << 19, 0, 1 << 19, 1 << 18, 0);
    }

    private void forcedNot() {
        for (int what = 0; what < 3; what++) {
            int k = what;
            noSets("forced yes", x -> set -> x.forced(set, 0, k));
            noSets("forced no", x -> set -> x.forced(0, set, k));
        }
        for (YesNoRays x : objects()) {
            throwing("what ahead of sets", "none", what -> x.forced(-1, 1 << 20, what), -1, 3);
            throwing("a clash doesn't matter", "bad", set -> x.forced(set, set, 2), 1 << 20, -1);
        }
    }

    private void tree() {
        YesNoRays x = Kit.of(Kit.BUG);
        kit.due("leafs", 2, x.tree(0));
        kit.due("depth", 4, x.tree(1));
        kit.due("clashes", 1, x.tree(2));
        x.rule(1);
        kit.due("clashes by rule 1", 0, x.tree(2));
        x.undo();
        kit.due("clashes by rule 0 again", 1, x.tree(2));
        YesNoRays refused = Kit.of(Kit.CABELLO);
        kit.due("each leaf has a clash", refused.tree(0), refused.tree(2));
    }

    private void spared() {
        YesNoRays x = Kit.of(Kit.CABELLO.replace("sides 4;", "sides 4;ray 1 2 3 4;") + "ray 9 8 7 6;");
        int all = (1 << 18) - 1 << 1;
        kit.due("both, from 0 on", all, x.spared(false));
        kit.due("both, from the last one on", all, x.spared(true));
        x.rule(1);
        kit.due("by rule 1", all, x.spared(false));
        x.keep(1, false);
        kit.due("nothing", 0, x.spared(false));
        kit.due("nothing, back", 0, x.spared(true));
    }

    private void fewest() {
        kit.due("without rays", 0, new YesNoRays().fewest());
        kit.due("nothing is refused", 0, Kit.of(Kit.FIVE).fewest());
        kit.due("all 20", Kit.ALL, Kit.of(Kit.ELEVEN).fewest());
        YesNoRays x = Kit.of(Kit.ELEVEN);
        x.keep(19, false);
        kit.due("19 of them aren't", 0, x.fewest());
        x.keep(19, true);
        kit.due("all 20 again", Kit.ALL, x.fewest());
    }

    private void isRefused() {
        YesNoRays x = Kit.of(Kit.NINE_AND_ELEVEN);
        int eighteen = x.fewest();
        kit.due("all", true, x.isRefused(Kit.ALL));
        kit.due("a part", true, x.isRefused(eighteen));
        for (int ray = 0; ray < 20; ray++) {
            boolean spare = (eighteen >> ray & 1) == 0;
            kit.due("all but " + ray, spare, x.isRefused(Kit.ALL & ~(1 << ray)));
            kit.due("the part without " + ray, spare, x.isRefused(eighteen & ~(1 << ray)));
        }
        kit.due("nothing", false, x.isRefused(0));
        x.only(eighteen);
        kit.due("a part that is all", true, x.isRefused(eighteen));
        kit.due("what was asked doesn't matter to all", 1, x.count(9));
        YesNoRays frame = Kit.of(Kit.AXES3);
        kit.due("two of a frame", false, frame.isRefused(3));
        kit.due("a frame", false, frame.isRefused(7));
    }

    private void most() {
        YesNoRays x = Kit.of(Kit.FIVE);
        kit.due("most", 2, x.most(0));
        kit.due("the first", 4, x.most(1));
        x.keep(2, false);
        kit.due("without frames", 0, x.most(0));
        kit.due("without frames, no ray", 0, x.most(1));
        YesNoRays refused = Kit.of(Kit.ELEVEN);
        kit.due("not all eleven", 10, refused.most(0));
        int right = 0;
        for (int i = 0; i < 11; i++) {
            right += Integer.bitCount(refused.frame(i) & refused.most(1));
        }
        kit.due("just so many by the set", 10, right);
    }

    private void parity() {
        kit.due("no rays", YesNoRays.NONE, new YesNoRays().parity());
        kit.due("no parity", YesNoRays.NONE, Kit.of(Kit.FIVE).parity());
        kit.due("of nine", 9, Kit.of(Kit.CABELLO).parity());
        YesNoRays x = Kit.of(Kit.ELEVEN);
        kit.due("of eleven", 11, x.parity());
        x.keep(0, false);
        kit.due("none with one out", YesNoRays.NONE, x.parity());
        x.undo();
        kit.due("of eleven again", 11, x.parity());
        x.rule(1);
        kit.due("by rule 1, too", 11, x.parity());
    }

    private void proof() {
        YesNoRays x = Kit.of(Kit.CABELLO);
        for (int i = 0; i < 9; i++) {
            kit.due("of nine, " + i, i, x.proof(i));
        }
        YesNoRays y = Kit.of(Kit.NINE_AND_ELEVEN);
        for (int i = 1; i < 9; i++) {
            kit.due("rising, " + i, true, y.proof(i) > y.proof(i - 1));
        }
    }

    private void noProof() {
        for (YesNoRays x : objects()) {
            int last = x.parity();
            answers("proof", x::proof, 0, last - 1);
            throwing("proof", "none", x::proof, Math.max(0, last), 40, -1, Integer.MIN_VALUE, Integer.MAX_VALUE);
        }
        YesNoRays nine = Kit.of(Kit.NINE_AND_ELEVEN);
        throwing("proof of nine", "none", nine::proof, 9, 10, 11);
        YesNoRays none = Kit.of(Kit.CABELLO);
        none.parity();
        none.keep(0, false);
        throwing("proof with one out", "none", none::proof, 0, -1);
    }

    private void even() {
        kit.due("no frames: the empty set", 0, new YesNoRays().even());
        kit.due("one frame", 0, Kit.of(Kit.AXES4).even());
        kit.due("nine frames", 1, Kit.of(Kit.CABELLO).even());
        kit.due("twelve frames", 2, Kit.of(Kit.NINE_AND_ELEVEN).even());
        YesNoRays x = Kit.of(Kit.CABELLO);
        x.keep(17, false);
        kit.due("with one out", 0, x.even());
        x.keep(17, true);
        kit.due("with all in again", 1, x.even());
    }

    private void symmetries() {
        YesNoRays x = Kit.of(Kit.FIVE);
        kit.due("how many", 16, x.symmetries(0));
        kit.due("kinds", 3, x.symmetries(1));
        x.only(0);
        kit.due("none in, how many", 48, x.symmetries(0));
        kit.due("none in, kinds", 0, x.symmetries(1));
        kit.due("one ray, kinds", 1, Kit.of("sides 4;ray 1 2 3 4;").symmetries(1));
    }

    private void alike() {
        YesNoRays x = Kit.of(Kit.FIVE);
        int[] due = {3, 3, 4, 24, 24};
        for (int ray = 0; ray < 5; ray++) {
            kit.due("ray " + ray, due[ray], x.alike(ray));
        }
        x.only(1 << 4);
        kit.due("itself alone", 1 << 4, x.alike(4));
        kit.due("the last of 20", true, (Kit.of(Kit.ELEVEN).alike(19) >> 19 & 1) == 1);
    }

    private void third() {
        YesNoRays x = Kit.of("sides 3;ray 1 1 1;ray 1 -1 0;");
        kit.due("k 0", 1, x.third(0, 1, 0));
        kit.due("k 1", 1, x.third(0, 1, 1));
        kit.due("k 2", -2, x.third(0, 1, 2));
        YesNoRays path = Kit.of(Kit.PATH);
        int[] due = {7, -12, 15};
        for (int k = 0; k < 3; k++) {
            kit.due("of the last two of 20, k " + k, due[k], path.third(18, 19, k));
        }
    }

    private void noThird() {
        YesNoRays x = Kit.of(Kit.FIVE);
        answers("third, k", k -> x.third(0, 1, k), 0, 2);
        throwing("third, k", "none", k -> x.third(0, 1, k), 3, 4, -1, Integer.MIN_VALUE, Integer.MAX_VALUE);
        throwing("third, second ray", "none", ray -> x.third(2, ray, 0), 2, 5, 20, 32, 33, -1, -32, -31,
                Integer.MIN_VALUE, Integer.MAX_VALUE);
        throwing("third, first ray", "none", ray -> x.third(ray, 2, 0), 2, 5, 20, 32, 33, -1, -32, -31,
                Integer.MIN_VALUE, Integer.MAX_VALUE);
        throwing("third, not upright", "none", ray -> x.third(0, ray, 0), 0, 3, 4);
        x.keep(1, false);
        throwing("third, one out", "none", k -> x.third(0, 1, k), 0, 1, 2);
        throwing("third, the first out", "none", k -> x.third(1, 0, k), 0, 1, 2);
        x.keep(1, true);
        answers("third, in again", k -> x.third(0, 1, k), 0, 2);
        YesNoRays four = Kit.of(Kit.AXES4);
        throwing("third of 4 sides", "none", k -> four.third(0, 1, k), 0, 1, 2, 3);
        YesNoRays none = new YesNoRays();
        throwing("third of no rays", "none", k -> none.third(0, 1, k), 0, 1, 2);
    }

    private void lacking(String of, YesNoRays x, int... due) {
        for (int what = 0; what < 3; what++) {
            kit.due("lacking " + what + " of " + of, due[what], x.lacking(what));
        }
    }

    private void lacking() {
        lacking("no rays", new YesNoRays(), 0, -1, 0);
        YesNoRays x = Kit.of(Kit.FIVE);
        lacking("none", x, 0, -1, 0);
        x.keep(2, false);
        lacking("two", x, 2, 1, 2);
        x.keep(0, false);
        lacking("one", x, 1, 20 * 3 + 4, 1);
        // All are in: a third that is told would make a frame, and a path has none.
        lacking("a path", Kit.of(Kit.PATH), 19, 1, 0);
        YesNoRays last = Kit.of(Kit.PATH);
        last.only(3 << 18);
        kit.due("the greatest", 20 * 18 + 19, last.lacking(1));
        YesNoRays four = Kit.of(Kit.AXES4);
        lacking("none of 4 sides", four, 0, -1, 0);
        four.keep(3, false);
        lacking("4 sides", four, 3, 1, 0);
        YesNoRays nine = Kit.of("sides 3;ray 9 -1 0;ray 0 0 1;ray -1 -9 0;");
        nine.keep(2, false);
        lacking("a third with a 9, times something", nine, 1, 1, 1);
        YesNoRays ten = Kit.of("sides 3;ray 2 4 0;ray 4 -2 9;ray 1 0 0;");
        ten.keep(2, false);
        lacking("a third above 9", ten, 1, 1, 0);
        // Its third is 1 1 10: were 10 taken for 9 and a carry, that would be ray 2.
        YesNoRays carry = Kit.of("sides 3;ray 1 -1 0;ray 5 5 -1;ray 1 2 -9;");
        carry.keep(2, false);
        lacking("a third with a 10", carry, 1, 1, 0);
    }

    private void parts() {
        kit.due("no rays", 0, new YesNoRays().parts());
        kit.due("one", 1, Kit.of(Kit.FIVE).parts());
        kit.due("20", 20, Kit.of(Kit.apart()).parts());
        YesNoRays x = Kit.of(Kit.PATH);
        kit.due("one of 20 rays", 1, x.parts());
        x.only(0);
        kit.due("none in", 0, x.parts());
    }

    private void far() {
        YesNoRays x = Kit.of(Kit.PATH);
        kit.due("itself", 0, x.far(19, 19));
        kit.due("the next", 1, x.far(19, 18));
        kit.due("the farthest", 19, x.far(19, 0));
        x.keep(1, false);
        kit.due("not there", YesNoRays.NONE, x.far(19, 0));
        kit.due("itself, alone", 0, x.far(0, 0));
        kit.due("the farthest still", 17, x.far(2, 19));
    }

    private void notFar() {
        noneIn("far, the first", x -> ray -> x.far(ray, another(ray)));
        noneIn("far, the second", x -> ray -> x.far(another(ray), ray));
        noneIn("far, both", x -> ray -> x.far(ray, ray));
    }

    private static int another(int ray) {
        return ray == 0 ? 1 : 0;
    }

    private void apart() {
        YesNoRays x = Kit.of(Kit.FIVE);
        kit.due("how many", 2, x.apart(0));
        kit.due("the least", 9, x.apart(1));
        x.only(0);
        kit.due("none in", 0, x.apart(0));
        kit.due("none in, the set", 0, x.apart(1));
        YesNoRays all = Kit.of(Kit.apart());
        kit.due("all", 20, all.apart(0));
        kit.due("all, the set", Kit.ALL, all.apart(1));
        all.only(1 << 19);
        kit.due("one", 1, all.apart(0));
        kit.due("one, the set", 1 << 19, all.apart(1));
    }

    private void hues() {
        YesNoRays x = Kit.of(Kit.ELEVEN);
        kit.due("more than 4", 5, x.hues());
        x.only(1);
        kit.due("one ray", 1, x.hues());
        x.only(0);
        kit.due("none in", 0, x.hues());
        kit.due("none told", 0, new YesNoRays().hues());
    }
}
