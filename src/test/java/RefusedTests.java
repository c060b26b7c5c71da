import java.util.ArrayList;
import java.util.LinkedHashMap;
import java.util.List;
import java.util.Map;
import java.util.function.Function;
import java.util.function.Supplier;

/**
 * Every call that is refused: which exception it throws, and that all that can be seen of the object is as it was; and
 * every call that only asks, which changes nothing either. Each on objects in several states.
 */
public final class RefusedTests {
    private static final Kit KIT = new Kit("RefusedTests");
    private static final int[] NO_RAYS = {20, 32, -1, Integer.MIN_VALUE};
    private static final int[] NO_SETS = {1 << 20, 1 << 31, -1};
    private static final int[] NO_WHATS = {10, -1};

    private final Map<String, Function<YesNoRays, Object>> none = new LinkedHashMap<>();
    private final Map<String, Function<YesNoRays, Object>> bad = new LinkedHashMap<>();
    private final Map<String, Function<YesNoRays, Object>> askers = new LinkedHashMap<>();

    private RefusedTests() {
        wrongRays();
        wrongWhats();
        wrongSets();
        wrongBounds();
        askers();
    }

    public static void main(String[] args) {
        RefusedTests tests = new RefusedTests();
        List<Supplier<YesNoRays>> states = List.of(YesNoRays::new, RefusedTests::busy, RefusedTests::full,
                RefusedTests::noneIn);
        for (int i = 0; i < states.size(); i++) {
            tests.all("state " + i + ", ", states.get(i));
        }
        KIT.end();
    }

    /** Some rays, one out, rule 1, a fault, something said, a text on the tape. */
    private static YesNoRays busy() {
        YesNoRays x = Kit.of(Kit.FIVE);
        x.say();
        x.keep(2, false);
        x.rule(1);
        Kit.rays(x, "sides 4;ray 1");
        Kit.feed(x, Kit.bytes(Kit.FIVE));
        return x;
    }

    /** All rays that there can be, more acts than are kept, a full tape, the longest text said. */
    private static YesNoRays full() {
        YesNoRays x = Kit.of(Kit.NINE_AND_ELEVEN);
        x.say();
        for (int i = 0; i < 22; i++) {
            x.keep(i % 20, i % 3 == 0);
        }
        x.only(Kit.ALL & ~(1 << 5));
        Kit.feed(x, Kit.bytes("many yes=1 or not frames>2" + " ".repeat(374)));
        return x;
    }

    private static YesNoRays noneIn() {
        YesNoRays x = Kit.of(Kit.apart());
        Kit.ask(x, "many x=1000");
        x.only(0);
        return x;
    }

    private void wrongRays() {
        for (int ray : NO_RAYS) {
            none.put("ray " + ray, x -> x.ray(ray, 0));
            none.put("isIn " + ray, x -> x.isIn(ray));
            none.put("product " + ray, x -> x.product(ray, 0));
            none.put("product by " + ray, x -> x.product(0, ray));
            none.put("meets " + ray, x -> x.meets(ray));
            none.put("having " + ray, x -> x.having(ray, 1));
            none.put("alike " + ray, x -> x.alike(ray));
            none.put("third " + ray, x -> x.third(ray, 0, 0));
            none.put("third by " + ray, x -> x.third(0, ray, 0));
            none.put("far " + ray, x -> x.far(ray, 0));
            none.put("far by " + ray, x -> x.far(0, ray));
            none.put("keep in " + ray, x -> x.keep(ray, true));
            none.put("keep out " + ray, x -> x.keep(ray, false));
        }
    }

    private void wrongWhats() {
        for (int what : NO_WHATS) {
            none.put("count " + what, x -> x.count(what));
            none.put("number " + what, x -> x.ray(0, what));
            none.put("having as " + what, x -> x.having(0, what));
            none.put("forced " + what, x -> x.forced(0, 0, what));
            none.put("forced of no rays " + what, x -> x.forced(-1, -1, what));
            none.put("tree " + what, x -> x.tree(what));
            none.put("most " + what, x -> x.most(what));
            none.put("symmetries " + what, x -> x.symmetries(what));
            none.put("third's number " + what, x -> x.third(0, 1, what));
            none.put("lacking " + what, x -> x.lacking(what));
            none.put("apart " + what, x -> x.apart(what));
            bad.put("rule " + what, x -> x.rule(what));
        }
    }

    private void wrongSets() {
        for (int set : NO_SETS) {
            bad.put("forced yes " + set, x -> x.forced(set, 0, 0));
            bad.put("forced no " + set, x -> x.forced(0, set, 2));
            bad.put("isRefused " + set, x -> x.isRefused(set));
            bad.put("only " + set, x -> x.only(set));
        }
    }

    /** The first value behind the last that is allowed, as it is in each state. */
    private void wrongBounds() {
        none.put("the first ray that isn't told", x -> x.ray(x.count(1), 0));
        none.put("keep of the first that isn't told", x -> x.keep(x.count(1), false));
        none.put("frame behind the last", x -> x.frame(x.count(4)));
        none.put("frame -1", x -> x.frame(-1));
        none.put("choice behind the last", x -> x.choice(x.count(8)));
        none.put("choice -1", x -> x.choice(-1));
        none.put("proof behind the last", x -> x.proof(Math.max(0, x.parity())));
        none.put("proof -1", x -> x.proof(-1));
        none.put("third of one ray", x -> x.third(0, 0, 0));
        bad.put("only of the first that isn't told", x -> x.only(1 << x.count(1)));
        bad.put("isRefused of the first that isn't told", x -> x.isRefused(1 << x.count(1)));
        bad.put("rays of more than there are", x -> x.rays(x.count(7) + 1));
        bad.put("rays of 401", x -> x.rays(401));
        bad.put("rays below 0", x -> x.rays(-1));
        bad.put("rays of the least", x -> x.rays(Integer.MIN_VALUE));
        bad.put("ask of more than there are", x -> x.ask(x.count(7) + 1));
        bad.put("ask of 201", x -> x.ask(201));
        bad.put("ask below 0", x -> x.ask(-1));
        bad.put("ask of the least", x -> x.ask(Integer.MIN_VALUE));
    }

    private void askers() {
        askers.put("fault", YesNoRays::fault);
        askers.put("counts", x -> x.count(8) + x.count(9));
        askers.put("choice", x -> Kit.thrown(() -> x.choice(0)));
        askers.put("having", x -> Kit.thrown(() -> x.having(0, 1)));
        askers.put("forced", x -> Kit.thrown(() -> x.forced(1, 2, 0)));
        askers.put("tree", x -> x.tree(1));
        askers.put("spared", x -> x.spared(true));
        askers.put("fewest", YesNoRays::fewest);
        askers.put("isRefused", x -> Kit.thrown(() -> x.isRefused(3)));
        askers.put("most", x -> x.most(1));
        askers.put("parity", YesNoRays::parity);
        askers.put("proof", x -> Kit.thrown(() -> x.proof(0)));
        askers.put("even", YesNoRays::even);
        askers.put("symmetries", x -> x.symmetries(1));
        askers.put("alike", x -> Kit.thrown(() -> x.alike(0)));
        askers.put("third", x -> Kit.thrown(() -> x.third(0, 1, 0)));
        askers.put("lacking", x -> x.lacking(2));
        askers.put("parts", YesNoRays::parts);
        askers.put("far", x -> Kit.thrown(() -> x.far(0, 1)));
        askers.put("apart", x -> x.apart(1));
        askers.put("hues", YesNoRays::hues);
        askers.put("said", x -> x.said(0));
    }

    private void all(String state, Supplier<YesNoRays> maker) {
        Map<String, String> before = Seen.of(maker);
        for (String call : none.keySet()) {
            refused(state + call, "none", maker, none.get(call), before);
        }
        for (String call : bad.keySet()) {
            refused(state + call, "bad", maker, bad.get(call), before);
        }
        for (String call : askers.keySet()) {
            unchanged(state + call, maker, askers.get(call), before);
        }
        outside(state, maker, before);
        fullTape(state, maker, before);
    }

    private void refused(String of, String want, Supplier<YesNoRays> maker, Function<YesNoRays, Object> call,
            Map<String, String> before) {
        YesNoRays x = maker.get();
        KIT.dueThrow(of, want, () -> call.apply(x));
        unchanged(of, maker, call, before);
    }

    private void unchanged(String of, Supplier<YesNoRays> maker, Function<YesNoRays, Object> call,
            Map<String, String> before) {
        Map<String, String> after = Seen.of(() -> called(maker, call));
        for (String what : before.keySet()) {
            KIT.due(what + " behind " + of, before.get(what), after.get(what));
        }
    }

    private static YesNoRays called(Supplier<YesNoRays> maker, Function<YesNoRays, Object> call) {
        YesNoRays x = maker.get();
        Kit.thrown(() -> call.apply(x));
        return x;
    }

    /** Calls that want rays that are in, with one that is out. */
    private void outside(String state, Supplier<YesNoRays> maker, Map<String, String> before) {
        for (int ray : rays(maker.get(), false)) {
            List<Integer> others = rays(maker.get(), true);
            int other = others.isEmpty() ? ray : others.get(0);
            refused(state + "having out " + ray, "none", maker, x -> x.having(ray, 0), before);
            refused(state + "alike out " + ray, "none", maker, x -> x.alike(ray), before);
            refused(state + "third out " + ray, "none", maker, x -> x.third(ray, other, 0), before);
            refused(state + "far out " + ray, "none", maker, x -> x.far(ray, other), before);
            refused(state + "far to out " + ray, "none", maker, x -> x.far(other, ray), before);
            refused(state + "forced out " + ray, "bad", maker, x -> x.forced(1 << ray, 0, 1), before);
            refused(state + "forced no out " + ray, "bad", maker, x -> x.forced(0, 1 << ray, 1), before);
            refused(state + "isRefused out " + ray, "bad", maker, x -> x.isRefused(1 << ray), before);
        }
    }

    private static List<Integer> rays(YesNoRays x, boolean in) {
        List<Integer> found = new ArrayList<>();
        for (int ray = 0; ray < x.count(1) && found.size() < 2; ray++) {
            if (x.isIn(ray) == in) {
                found.add(ray);
            }
        }
        return found;
    }

    private void fullTape(String state, Supplier<YesNoRays> maker, Map<String, String> before) {
        if (maker.get().count(7) == 400) {
            KIT.due(state + "feed", YesNoRays.NONE, maker.get().feed(1, 2, 3, 4, 5));
            unchanged(state + "feed", maker, x -> x.feed(1, 2, 3, 4, 5), before);
        }
    }
}
