import java.util.LinkedHashMap;
import java.util.Map;
import java.util.function.Supplier;

/**
 * All that can be seen of an object. Each part is seen on an object of its own, made anew: some parts change it, and an
 * object is used for 512 calls only.
 */
final class Seen {
    private final Supplier<YesNoRays> maker;
    private final Map<String, String> all = new LinkedHashMap<>();

    private Seen(Supplier<YesNoRays> maker) {
        this.maker = maker;
    }

    static Map<String, String> of(Supplier<YesNoRays> maker) {
        Seen seen = new Seen(maker);
        seen.counts();
        seen.rays();
        seen.couples();
        seen.steps();
        seen.thirds();
        seen.sets();
        seen.choices();
        seen.note("said", Kit.saidText(maker.get()));
        seen.sayNow();
        seen.undone(0);
        seen.undone(10);
        seen.tape();
        return seen.all;
    }

    private void note(String what, String answer) {
        all.merge(what, answer, (a, b) -> a + " " + b);
    }

    private void see(String what, Kit.Call call) {
        note(what, Kit.thrown(call).replace("nothing thrown: ", ""));
    }

    private void counts() {
        YesNoRays x = maker.get();
        for (int what = 0; what < 10; what++) {
            int k = what;
            see("count " + what, () -> x.count(k));
        }
        see("fault", x::fault);
    }

    private void rays() {
        YesNoRays x = maker.get();
        for (int i = 0; i < 20; i++) {
            int ray = i;
            see("isIn", () -> x.isIn(ray));
            see("meets", () -> x.meets(ray));
            see("having yes", () -> x.having(ray, 1));
            see("having no", () -> x.having(ray, 0));
            see("alike", () -> x.alike(ray));
            for (int j = 0; j < 4; j++) {
                int k = j;
                see("ray", () -> x.ray(ray, k));
            }
        }
    }

    private void couples() {
        YesNoRays x = maker.get();
        for (int i = 0; i < 400; i++) {
            int couple = i;
            see("product", () -> x.product(couple / 20, couple % 20));
        }
    }

    private void steps() {
        YesNoRays x = maker.get();
        for (int i = 0; i < 400; i++) {
            int couple = i;
            see("far", () -> x.far(couple / 20, couple % 20));
        }
    }

    private void thirds() {
        YesNoRays x = maker.get();
        for (int i = 0; i < 300; i++) {
            int couple = i / 3;
            int k = i % 3;
            see("third", () -> x.third(couple / 10, couple % 10, k));
        }
    }

    private void sets() {
        YesNoRays x = maker.get();
        for (int i = 0; i < 26; i++) {
            int frame = i;
            see("frame", () -> x.frame(frame));
            see("proof", () -> x.proof(frame));
        }
        for (int i = 0; i < 3; i++) {
            int what = i;
            see("tree", () -> x.tree(what));
            see("most", () -> x.most(what));
            see("symmetries", () -> x.symmetries(what));
            see("lacking", () -> x.lacking(what));
            see("apart", () -> x.apart(what));
        }
        see("spared", () -> x.spared(false));
        see("spared back", () -> x.spared(true));
        see("fewest", x::fewest);
        see("parity", x::parity);
        see("even", x::even);
        see("parts", x::parts);
        see("hues", x::hues);
    }

    private void choices() {
        YesNoRays x = maker.get();
        for (int i = 0; i < 40; i++) {
            int k = i;
            see("choice", () -> x.choice(k));
            see("isRefused", () -> x.isRefused(Kit.ALL >> k / 2 & ~(k % 2)));
            for (int j = 0; j < 3; j++) {
                int what = j;
                see("forced", () -> x.forced(1 << k % 20, k < 20 ? 0 : 1 << (k + 7) % 20, what));
            }
        }
    }

    private void sayNow() {
        YesNoRays x = maker.get();
        see("say", x::say);
        note("said then", Kit.saidText(x));
    }

    /** What is IN, of ten rays, and the RULE, ahead of each of the acts that are kept. */
    private void undone(int from) {
        YesNoRays x = maker.get();
        for (int i = 0; i < 21; i++) {
            see("undo", x::undo);
            see("rule undone", () -> x.count(5));
            for (int r = 0; r < 10; r++) {
                int ray = from + r;
                see("isIn undone", () -> x.isIn(ray));
            }
        }
    }

    private void tape() {
        YesNoRays x = maker.get();
        see("tape as rays", () -> x.rays(x.count(7)));
        see("tape's fault", x::fault);
        YesNoRays y = maker.get();
        see("tape as question", () -> y.ask(Math.min(200, y.count(7))));
        see("tape's question's fault", y::fault);
    }
}
