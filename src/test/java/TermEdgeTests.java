/** Boundary cases of what "Terms" says of rays that are in: frames, choices and all that comes of them. */
public final class TermEdgeTests {
    private static final String TERMS = "Terms";
    /** Frames 0, 1, 2, then 2, 3, 4, then 4, 5, 6. */
    private static final String CHAIN = Kit.FIVE + "ray 1 1 1;ray 1 1 -2;";
    /** Each ray is upright to two others; no frames. */
    private static final String RING = "sides 3;ray 1 0 0;ray 0 1 0;ray 1 0 1;ray 1 1 -1;ray 0 1 1;";
    /** Frames 0, 2, 3 and 1, 4, 5; rays 0 and 1 are upright, but in no frame together. */
    private static final String LINKED = "sides 3;ray 1 0 0;ray 0 1 0;ray 0 1 1;ray 0 1 -1;ray 1 0 1;ray 1 0 -1;";

    private final Kit kit;

    private TermEdgeTests(Kit kit) {
        this.kit = kit;
    }

    public static void main(String[] args) {
        Kit kit = new Kit("TermEdgeTests");
        all(kit);
        kit.end();
    }

    static void all(Kit kit) {
        TermEdgeTests tests = new TermEdgeTests(kit);
        tests.frameTerms();
        tests.forcedTerms();
        tests.refusedTerms();
        tests.uprightTerms();
        kit.edge(TERMS, "`NONE = -1`: There is none.", () -> kit.due("NONE", -1, YesNoRays.NONE));
        kit.edge(TERMS, "`HIDDEN = -1000000`: No number.", () -> kit.due("HIDDEN", -1000000, YesNoRays.HIDDEN));
    }

    private void frameTerms() {
        kit.edge(TERMS, "(Of RAYS that are IN alone.)", this::inAlone);
        kit.edge(TERMS, "Two are UPRIGHT, if their products side by side come to 0 together.", this::upright);
        kit.edge(TERMS, "A FRAME is a set of D RAYS each two of which are UPRIGHT;", this::frames);
        kit.edge(TERMS, "numbered by their RAYS (the least, then the second ..).", this::frameOrder);
        kit.edge(TERMS, "A CHOICE: each RAY is yes or no; no two that are UPRIGHT are both yes (by RULE 0; by 1 that "
                + "isn't asked but of two of one FRAME), and of each FRAME just one RAY is yes.", this::choices);
        kit.edge(TERMS, "CHOICES are numbered as numbers (RAY k yes: bit k; the least first).", this::choiceOrder);
        kit.edge(TERMS, "REFUSED is a set that has no CHOICE.", this::refused);
        kit.edge(TERMS, "(OUT ones are no in a CHOICE's number.)", this::outInChoice);
    }

    private void forcedTerms() {
        kit.edge(TERMS, "FORCED by some RAYS yes, some no: again and again, what follows at once: a RAY is no, if it may "
                + "not be yes beside one that is yes;", this::forcedNo);
        kit.edge(TERMS, "the last RAY of a FRAME all others of which are no is yes;", this::forcedYes);
        kit.edge(TERMS, "a CLASH: a RAY is both, a FRAME has no RAY that may be yes.", this::clash);
        kit.edge(TERMS, "THE TREE: nothing is told; what is FORCED; if all RAYS are yes or no, or there is a CLASH, that "
                + "is a LEAF;", this::leafs);
        kit.edge(TERMS, "else the least RAY that is neither is yes, then, by itself, no, each with what is FORCED then, "
                + "and so on.", this::tried);
        kit.edge(TERMS, "It ends as a CHOICE is found (its LEAF counts).", this::treeEnds);
        kit.edge(TERMS, "DEPTH: most RAYS that were tried one in another.", this::depth);
    }

    private void refusedTerms() {
        kit.edge(TERMS, "SPARED: the RAYS are gone through, from 0 on (or from the last one on): one without which the "
                + "rest (of those not left out) is REFUSED still is left out; what is left at the end.", this::spared);
        kit.edge(TERMS, "(Nothing, if all together aren't REFUSED.)", this::nothingSpared);
        kit.edge(TERMS, "FEWEST: the REFUSED set of fewest RAYS (of several the least as a number).", this::fewest);
        kit.edge(TERMS, "RIGHT of a set of RAYS that are yes, no two of which may be both: FRAMES with one of them; MOST: "
                + "the greatest number of these; the first such set (as a number).", this::most);
        kit.edge(TERMS, "PARITY: a set of FRAMES, odd many, in which each RAY is evenly often.", this::parity);
        kit.edge(TERMS, "LEAST PARITY (of the first 40 FRAMES alone): of fewest FRAMES, of several the first by its "
                + "FRAMES, rising (the least first, then the second ..).", this::leastParity);
    }

    private void uprightTerms() {
        kit.edge(TERMS, "THIRD of two RAYS that are UPRIGHT (D 3): the row of whole numbers that is UPRIGHT to both, "
                + "without a common part, the first of its numbers that isn't 0 above 0.", this::third);
        kit.edge(TERMS, "LACKING is a couple of UPRIGHT RAYS (the lesser one first) that is in no FRAME.", this::lacking);
        kit.edge(TERMS, "PARTS: RAYS that come to one another by UPRIGHT ones, step by step; FAR: the fewest such steps.",
                this::partsAndSteps);
        kit.edge(TERMS, "APART: the greatest number of RAYS no two of which are UPRIGHT.", this::apart);
        kit.edge(TERMS, "HUES: into how few sets RAYS can be put, in none of which two are UPRIGHT.", this::hues);
        kit.edge(TERMS, "A SYMMETRY: sides change places, each is turned or not (as x to -x), so that each RAY that is IN "
                + "comes to be one that is IN (times something); each way of doing so counts (turning all sides "
                + "together, too).", this::symmetries);
        kit.edge(TERMS, "ALIKE are RAYS that come to be one another by one.", this::alike);
    }

    private void inAlone() {
        YesNoRays x = Kit.of(Kit.FIVE);
        x.keep(2, false);
        kit.due("couples", 2, x.count(3));
        kit.due("frames", 0, x.count(4));
        kit.due("meets", 2, x.meets(0));
        kit.due("choices", 9, x.count(8));
        kit.due("most", 0, x.most(0));
        kit.due("parts", 2, x.parts());
        kit.due("hues", 2, x.hues());
        kit.due("apart", 2, x.apart(0));
        x.only(0);
        kit.due("none in: couples", 0, x.count(3));
        kit.due("none in: choices", 1, x.count(8));
        kit.due("none in: parts", 0, x.parts());
        kit.due("none in: symmetries", 48, x.symmetries(0));
        YesNoRays refused = Kit.of(Kit.CABELLO);
        refused.keep(17, false);
        kit.due("with one out nothing is refused", 0, refused.count(9));
        kit.due("with one out there is no parity", YesNoRays.NONE, refused.parity());
    }

    private void upright() {
        YesNoRays x = Kit.of("sides 4;ray 9 9 9 9;ray 9 -9 9 -9;ray 9 9 9 8;ray -9 -9 9 9;");
        kit.due("0 together", 10, x.meets(0));
        kit.due("1 more or less", 0, x.meets(2));
        kit.due("couples", 3, x.count(3));
        YesNoRays y = Kit.of("sides 3;ray 1 1 1;ray 1 0 0;ray 1 -1 1;ray 1 1 -2;");
        kit.due("1 isn't 0", 8, y.meets(0));
        kit.due("no ray is upright on itself", 0, y.meets(1));
        kit.due("the fourth number counts", 0, Kit.of("sides 4;ray 1 0 0 1;ray 0 1 0 1;").count(3));
    }

    private void frames() {
        YesNoRays x = Kit.of(Kit.AXES3);
        kit.due("three of 3 sides", 1, x.count(4));
        x.keep(0, false);
        kit.due("two of 3 sides", 0, x.count(4));
        YesNoRays y = Kit.of(Kit.AXES4);
        kit.due("four of 4 sides", 1, y.count(4));
        y.keep(3, false);
        kit.due("three of 4 sides", 0, y.count(4));
        YesNoRays z = Kit.of("sides 4;ray 1 0 0 0;ray 0 1 0 0;ray 0 0 1 0;ray 0 0 1 1;");
        kit.due("four, two of which aren't upright", 0, z.count(4));
        kit.due("a ring has none", 0, Kit.of(RING).count(4));
        kit.due("a path has none", 0, Kit.of(Kit.PATH).count(4));
        kit.due("the most that were found", 25, Kit.of(planes()).count(4));
    }

    /** Five couples in each of two planes that are upright on one another: 25 frames of 20 rays. */
    private static String planes() {
        int[][] couples = {{1, 0}, {1, 1}, {1, 2}, {1, 3}, {2, 3}};
        StringBuilder text = new StringBuilder("sides 4;");
        for (int[] c : couples) {
            text.append("ray ").append(c[0]).append(' ').append(c[1]).append(" 0 0;");
            text.append("ray ").append(c[1]).append(' ').append(-c[0]).append(" 0 0;");
            text.append("ray 0 0 ").append(c[0]).append(' ').append(c[1]).append(';');
            text.append("ray 0 0 ").append(c[1]).append(' ').append(-c[0]).append(';');
        }
        return text.toString();
    }

    private void frameOrder() {
        YesNoRays x = Kit.of("sides 3;ray 1 0 0;ray 0 1 0;ray 1 0 1;ray 1 0 -1;ray 0 0 1;ray 0 1 1;ray 0 1 -1;");
        kit.due("the least ray, the second", 1 | 2 | 16, x.frame(0));
        kit.due("the least ray, another second", 1 | 32 | 64, x.frame(1));
        kit.due("another least ray, though a lesser number", 2 | 4 | 8, x.frame(2));
        YesNoRays y = Kit.of("sides 4;ray 1 0 0 0;ray 0 0 0 1;ray 0 1 2 2;ray 0 2 1 -2;ray 0 2 -2 1;ray 0 1 0 0;"
                + "ray 0 0 1 0;");
        kit.due("4 sides: the second is less", 1 | 2 | 32 | 64, y.frame(0));
        kit.due("4 sides: the second is more", 1 | 4 | 8 | 16, y.frame(1));
        YesNoRays z = Kit.of("sides 4;ray 1 0 0 0;ray 0 1 0 0;ray 0 0 1 0;ray 0 0 1 1;ray 0 0 1 -1;ray 0 0 0 1;");
        kit.due("4 sides: the third is less", 1 | 2 | 4 | 32, z.frame(0));
        kit.due("4 sides: the third is more", 1 | 2 | 8 | 16, z.frame(1));
    }

    private void choices() {
        YesNoRays x = Kit.of(RING);
        kit.due("no two that are upright", 11, x.count(8));
        kit.due("two that are not", 5, x.choice(4));
        x.rule(1);
        kit.due("by rule 1 all sets, where there are no frames", 32, x.count(8));
        kit.due("by rule 1 all are yes", 31, x.choice(31));
        YesNoRays y = Kit.of(Kit.AXES4);
        for (int rule = 0; rule < 2; rule++) {
            y.rule(rule);
            kit.due("just one of a frame", 4, y.count(8));
            for (int k = 0; k < 4; k++) {
                kit.due("just one of a frame, choice " + k, 1 << k, y.choice(k));
            }
        }
        YesNoRays z = Kit.of(LINKED);
        kit.due("nine couples, one of which is upright", 8, z.count(8));
        z.rule(1);
        kit.due("by rule 1 two of two frames", 9, z.count(8));
        kit.due("by rule 1 the upright ones, too", 3, z.choice(0));
    }

    private void choiceOrder() {
        YesNoRays x = Kit.of(Kit.FIVE);
        int[] due = {4, 9, 10, 17, 18};
        for (int k = 0; k < due.length; k++) {
            kit.due("choice " + k, due[k], x.choice(k));
        }
        YesNoRays y = Kit.of(Kit.apart());
        for (int k : new int[] {0, 1, 2, 524287, 524288, 1048574, 1048575}) {
            kit.due("choice " + k + " of all sets", k, y.choice(k));
        }
        YesNoRays path = Kit.of(Kit.PATH);
        kit.due("sets of a path", 17711, path.count(8));
        kit.due("the first", 0, path.choice(0));
        kit.due("the third", 2, path.choice(2));
        kit.due("the fourth", 4, path.choice(3));
        kit.due("the last", 0xaaaaa, path.choice(17710));
    }

    private void refused() {
        YesNoRays x = Kit.of(Kit.CABELLO);
        int all = (1 << 18) - 1;
        kit.due("all", true, x.isRefused(all));
        kit.due("no choice", 0, x.count(8));
        for (int ray = 0; ray < 18; ray++) {
            kit.due("all but " + ray, false, x.isRefused(all & ~(1 << ray)));
        }
        kit.due("nothing", false, x.isRefused(0));
        kit.due("one choice is enough", false, Kit.of("sides 3;").isRefused(0));
    }

    private void outInChoice() {
        YesNoRays x = Kit.of(Kit.FIVE);
        x.only(1 | 8 | 16);
        int[] due = {0, 1, 8, 9, 16, 17};
        for (int k = 0; k < due.length; k++) {
            kit.due("choice " + k, due[k], x.choice(k));
        }
        kit.due("no more", 6, x.count(8));
        x.only(0);
        kit.due("all out", 0, x.choice(0));
    }

    private void forcedNo() {
        YesNoRays x = Kit.of(CHAIN);
        kit.due("nothing by nothing", 0, x.forced(0, 0, 0) | x.forced(0, 0, 1));
        kit.due("beside ray 2", 1 | 2 | 8 | 16, x.forced(4, 0, 1));
        kit.due("beside ray 2, yes", 4, x.forced(4, 0, 0));
        kit.due("again and again, yes", 1 | 16, x.forced(1, 8, 0));
        kit.due("again and again, no", 2 | 4 | 8 | 32 | 64, x.forced(1, 8, 1));
        kit.due("by no alone", 4, x.forced(0, 3, 0));
        kit.due("by no alone, on", 1 | 2 | 8 | 16, x.forced(0, 3, 1));
        YesNoRays y = Kit.of(LINKED);
        kit.due("upright, in no frame together", 1 << 1 | 1 << 2 | 1 << 3, y.forced(1, 0, 1));
        y.rule(1);
        kit.due("by rule 1 those of one frame alone", 1 << 2 | 1 << 3, y.forced(1, 0, 1));
    }

    private void forcedYes() {
        YesNoRays x = Kit.of(Kit.AXES4);
        kit.due("two of four no", 0, x.forced(0, 3, 0));
        for (int ray = 0; ray < 4; ray++) {
            kit.due("all but " + ray + " no", 1 << ray, x.forced(0, 15 & ~(1 << ray), 0));
        }
        YesNoRays y = Kit.of(Kit.AXES3);
        kit.due("one of three no", 0, y.forced(0, 1, 0));
        kit.due("one of three no, no others", 1, y.forced(0, 1, 1));
        y.keep(2, false);
        kit.due("no frame", 0, y.forced(0, 1, 0));
        kit.due("all no, where there is no frame", 3, y.forced(0, 3, 1));
    }

    private void clash() {
        YesNoRays x = Kit.of(Kit.FIVE);
        kit.due("told both", 1, x.forced(8, 8, 2));
        kit.due("two upright ones yes", 1, x.forced(1 | 2, 0, 2));
        kit.due("a frame all no", 1, x.forced(0, 7, 2));
        kit.due("a frame that has none left", 1, x.forced(1, 24, 2));
        kit.due("two yes that aren't upright", 0, x.forced(1 | 8, 0, 2));
        YesNoRays y = Kit.of(Kit.BUG);
        kit.due("the last rays of two frames are upright", 1, y.forced(3, 0, 2));
        kit.due("one yes alone", 0, y.forced(1, 0, 2));
        y.rule(1);
        kit.due("by rule 1 that is none", 0, y.forced(3, 0, 2));
        kit.due("all rays yes, by rule 1 a clash in a frame", 1, y.forced(12, 0, 2));
        x.only(0);
        kit.due("none in", 0, x.forced(0, 0, 2));
    }

    private void tree(String of, YesNoRays x, int leafs, int depth, int clashes) {
        kit.due(of + ": leafs", leafs, x.tree(0));
        kit.due(of + ": depth", depth, x.tree(1));
        kit.due(of + ": clashes", clashes, x.tree(2));
    }

    private void leafs() {
        tree("no rays", new YesNoRays(), 1, 0, 0);
        tree("one frame", Kit.of(Kit.AXES3), 1, 1, 0);
        YesNoRays x = Kit.of(Kit.AXES4);
        tree("one frame of 4", x, 1, 1, 0);
        x.only(8);
        tree("one ray", x, 1, 1, 0);
        x.only(0);
        tree("none in", x, 1, 0, 0);
        tree("told again", x, 1, 0, 0);
    }

    private void tried() {
        // 0 yes, then 1 yes: a clash. 1 no instead, 3 yes, 6 yes: a choice.
        YesNoRays x = Kit.of(Kit.BUG);
        tree("one clash", x, 2, 4, 1);
        x.rule(1);
        // 0, 1, 2, 5 yes.
        tree("by rule 1", x, 1, 4, 0);
        x.rule(0);
        x.keep(0, false);
        // 1 yes, 2 yes, 5 yes.
        tree("the first out", x, 1, 3, 0);
        // Ray 3 is no by frame 2, 3, 4 once 2 is yes: so not the ray, but the frame counts.
        tree("five", Kit.of(Kit.FIVE), 1, 2, 0);
    }

    private void treeEnds() {
        YesNoRays never = Kit.of(Kit.NEVER_YES);
        kit.due("leafs that clash, as ray 0 is yes", true, never.tree(2) > 0);
        kit.due("and one more, as it is no", never.tree(2) + 1, never.tree(0));
        YesNoRays refused = Kit.of(Kit.CABELLO);
        kit.due("all leafs clash", refused.tree(2), refused.tree(0));
        for (int ray = 0; ray < 18; ray++) {
            YesNoRays x = Kit.of(Kit.CABELLO);
            x.keep(ray, false);
            kit.due("all leafs but the last clash, without " + ray, x.tree(2) + 1, x.tree(0));
        }
        tree("many choices, one leaf", Kit.of(Kit.apart()), 1, 20, 0);
    }

    private void depth() {
        tree("all tried", Kit.of(Kit.apart()), 1, 20, 0);
        tree("each second one tried", Kit.of(Kit.PATH), 1, 10, 0);
        tree("none tried", Kit.of("sides 4;"), 1, 0, 0);
    }

    private void spared() {
        int all = (1 << 18) - 1;
        YesNoRays x = Kit.of(Kit.CABELLO);
        kit.due("none can be", all, x.spared(false));
        kit.due("none can be, back", all, x.spared(true));
        YesNoRays first = Kit.of(Kit.CABELLO.replace("sides 4;", "sides 4;ray 1 2 3 4;ray 4 3 2 1;"));
        kit.due("the first two", all << 2, first.spared(false));
        kit.due("the first two, back", all << 2, first.spared(true));
        YesNoRays last = Kit.of(Kit.CABELLO + "ray 1 2 3 4;ray 4 3 2 1;");
        kit.due("the last two", all, last.spared(false));
        kit.due("the last two, back", all, last.spared(true));
        last.keep(18, false);
        kit.due("one that is out is no part of it", all, last.spared(true));
        YesNoRays twenty = Kit.of(Kit.ELEVEN);
        kit.due("none of 20", Kit.ALL, twenty.spared(false));
        kit.due("none of 20, back", Kit.ALL, twenty.spared(true));
        YesNoRays nine = Kit.of(Kit.NINE_AND_ELEVEN);
        kit.due("two of 20", 18, Integer.bitCount(nine.spared(false)));
        kit.due("what is left is refused", true, nine.isRefused(nine.spared(true)));
    }

    private void nothingSpared() {
        kit.due("no rays", 0, new YesNoRays().spared(false));
        kit.due("no rays, back", 0, new YesNoRays().spared(true));
        YesNoRays x = Kit.of(Kit.CABELLO);
        x.keep(0, false);
        kit.due("all but one", 0, x.spared(false));
        kit.due("all but one, back", 0, x.spared(true));
        kit.due("20 rays", 0, Kit.of(Kit.PATH).spared(false));
    }

    private void fewest() {
        int all = (1 << 18) - 1;
        kit.due("no rays", 0, new YesNoRays().fewest());
        kit.due("nothing refused", 0, Kit.of(Kit.PATH).fewest());
        kit.due("all", all, Kit.of(Kit.CABELLO).fewest());
        kit.due("all of 20", Kit.ALL, Kit.of(Kit.ELEVEN).fewest());
        YesNoRays x = Kit.of(Kit.CABELLO.replace("sides 4;", "sides 4;ray 1 2 3 4;") + "ray 4 3 2 1;");
        kit.due("all but the first and the last", all << 1, x.fewest());
        x.keep(0, false);
        kit.due("all that are in but the last", all << 1, x.fewest());
        x.keep(1, false);
        kit.due("too few are in", 0, x.fewest());
        YesNoRays nine = Kit.of(Kit.NINE_AND_ELEVEN);
        kit.due("not those of eleven frames", 18, Integer.bitCount(nine.fewest()));
    }

    private void most() {
        YesNoRays x = Kit.of(LINKED);
        kit.due("both frames", 2, x.most(0));
        kit.due("0 and 1 may not be both", 2 | 4, x.most(1));
        x.rule(1);
        kit.due("both frames by rule 1", 2, x.most(0));
        kit.due("by rule 1 they may", 1 | 2, x.most(1));
        kit.due("no rays", 0, new YesNoRays().most(0));
        kit.due("no rays, the set", 0, new YesNoRays().most(1));
        kit.due("no frames: no ray is needed", 0, Kit.of(RING).most(1));
        kit.due("one ray for two frames", 4, Kit.of(Kit.FIVE).most(1));
        kit.due("the least of a frame", 1, Kit.of(Kit.AXES4).most(1));
        kit.due("all but one of nine", 8, Kit.of(Kit.CABELLO).most(0));
        kit.due("all but one of eleven", 10, Kit.of(Kit.ELEVEN).most(0));
        kit.due("all of 25", 25, Kit.of(planes()).most(0));
        // A yes in each couple of the first plane: its least ones are the rays 0, 4, 8, 12, 16.
        kit.due("all of 25, the set", 0x11111, Kit.of(planes()).most(1));
    }

    private void evenly(String of, YesNoRays x, int frames) {
        kit.due(of, frames, x.parity());
        int together = 0;
        int last = -1;
        for (int i = 0; i < frames; i++) {
            together ^= x.frame(x.proof(i));
            kit.due(of + ": rising", true, x.proof(i) > last);
            last = x.proof(i);
        }
        kit.due(of + ": each ray evenly often", 0, together);
    }

    private void parity() {
        kit.due("no frames", YesNoRays.NONE, new YesNoRays().parity());
        kit.due("one frame", YesNoRays.NONE, Kit.of(Kit.AXES3).parity());
        YesNoRays four = Kit.of("sides 4;ray 1 0 0 0;ray 0 1 0 0;ray 1 1 0 0;ray 1 -1 0 0;"
                + "ray 0 0 1 0;ray 0 0 0 1;ray 0 0 1 1;ray 0 0 1 -1;");
        kit.due("four frames are even together", 1, four.even());
        kit.due("but not odd many", YesNoRays.NONE, four.parity());
        evenly("nine", Kit.of(Kit.CABELLO), 9);
        evenly("eleven", Kit.of(Kit.ELEVEN), 11);
        kit.due("25 frames without one", YesNoRays.NONE, Kit.of(planes()).parity());
    }

    private void leastParity() {
        YesNoRays x = Kit.of(Kit.NINE_AND_ELEVEN);
        kit.due("twelve frames", 12, x.count(4));
        evenly("nine, not eleven", x, 9);
        kit.due("no frames, nine, eleven, and those that only one of these has", 2, x.even());
        int rays = 0;
        for (int i = 0; i < 9; i++) {
            rays |= x.frame(x.proof(i));
        }
        kit.due("by the rays that are fewest", x.fewest(), rays);
        YesNoRays y = Kit.of(Kit.ELEVEN);
        for (int i = 0; i < 11; i++) {
            kit.due("all eleven", i, y.proof(i));
        }
        y.keep(7, false);
        kit.due("fewer frames", true, y.count(4) < 11);
        kit.due("none of fewer frames", YesNoRays.NONE, y.parity());
        kit.due("none even of fewer frames", 0, y.even());
        y.keep(7, true);
        evenly("eleven again", y, 11);
    }

    private void third(String text, int... due) {
        YesNoRays x = Kit.of("sides 3;" + text);
        for (int k = 0; k < 3; k++) {
            kit.due("third of " + text + " number " + k, due[k], x.third(0, 1, k));
            kit.due("third of " + text + " the other way about, number " + k, due[k], x.third(1, 0, k));
        }
    }

    private void third() {
        third("ray 1 0 0;ray 0 1 0;", 0, 0, 1);
        third("ray 1 0 0;ray 0 0 1;", 0, 1, 0);
        third("ray 0 1 0;ray 0 0 -1;", 1, 0, 0);
        third("ray 9 9 0;ray -9 9 0;", 0, 0, 1);
        third("ray 1 0 0;ray 0 1 1;", 0, 1, -1);
        third("ray 1 1 1;ray 1 -1 0;", 1, 1, -2);
        third("ray -1 -1 -1;ray 1 -1 0;", 1, 1, -2);
        third("ray 9 9 9;ray 9 -9 0;", 1, 1, -2);
        third("ray 9 8 0;ray 8 -9 1;", 8, -9, -145);
        third("ray 9 9 -9;ray 9 0 9;", 1, -2, -1);
        third("ray 2 4 0;ray 4 -2 9;", 18, -9, -10);
        YesNoRays four = Kit.of(Kit.AXES4);
        kit.dueThrow("none of 4 sides", "none", () -> four.third(0, 1, 0));
    }

    private void lacking() {
        YesNoRays path = Kit.of(Kit.PATH);
        kit.due("all couples of a path", 19, path.lacking(0));
        kit.due("the first", 1, path.lacking(1));
        path.keep(0, false);
        kit.due("the lesser one first", 20 + 2, path.lacking(1));
        path.only(3 << 18);
        kit.due("the last couple", 20 * 18 + 19, path.lacking(1));
        kit.due("one couple", 1, path.lacking(0));
        YesNoRays x = Kit.of(LINKED);
        kit.due("one couple in no frame", 1, x.lacking(0));
        kit.due("it is 0, 1", 1, x.lacking(1));
        kit.due("the rule doesn't matter", 1, ruled(LINKED).lacking(0));
        YesNoRays ring = Kit.of(RING);
        ring.only(1 | 16);
        kit.due("0 and 4, none between", 4, ring.lacking(1));
        ring.only(2 | 4 | 16 | 8);
        kit.due("1 and 2", 20 + 2, ring.lacking(1));
        YesNoRays four = Kit.of(Kit.AXES4);
        kit.due("six couples in a frame", 0, four.lacking(0));
        four.keep(0, false);
        kit.due("three couples in none", 3, four.lacking(0));
        kit.due("the first of these", 22, four.lacking(1));
    }

    private static YesNoRays ruled(String text) {
        YesNoRays x = Kit.of(text);
        x.rule(1);
        return x;
    }

    private void partsAndSteps() {
        YesNoRays x = Kit.of(Kit.PATH);
        kit.due("one part", 1, x.parts());
        for (int ray = 0; ray < 20; ray++) {
            kit.due("from 0 to " + ray, ray, x.far(0, ray));
            kit.due("from 19 to " + ray, 19 - ray, x.far(19, ray));
        }
        x.keep(10, false);
        kit.due("two parts", 2, x.parts());
        kit.due("up to the one that is out", 9, x.far(0, 9));
        kit.due("beyond it", YesNoRays.NONE, x.far(9, 11));
        x.only(0x55555);
        kit.due("each by itself", 10, x.parts());
        kit.due("20 parts", 20, Kit.of(Kit.apart()).parts());
        kit.due("no parts", 0, new YesNoRays().parts());
        YesNoRays ring = Kit.of(RING);
        kit.due("the shorter way round", 2, ring.far(0, 3));
        kit.due("the shorter way round, back", 2, ring.far(3, 1));
        kit.due("by rule 1, too", 2, ruled(RING).far(0, 3));
        kit.due("by rule 1 one part, too", 1, ruled(RING).parts());
    }

    private void apart() {
        kit.due("no rays", 0, new YesNoRays().apart(0));
        kit.due("all", 20, Kit.of(Kit.apart()).apart(0));
        kit.due("half a path", 10, Kit.of(Kit.PATH).apart(0));
        kit.due("the least such set", 0x55555, Kit.of(Kit.PATH).apart(1));
        kit.due("two of a ring", 2, Kit.of(RING).apart(0));
        kit.due("the least two of it", 5, Kit.of(RING).apart(1));
        kit.due("one of a frame", 1, Kit.of(Kit.AXES4).apart(0));
        kit.due("the least one", 1, Kit.of(Kit.AXES4).apart(1));
        kit.due("by rule 1, too", 2, ruled(RING).apart(0));
    }

    private void hues() {
        kit.due("no rays", 0, new YesNoRays().hues());
        kit.due("one ray", 1, Kit.of("sides 4;ray 0 0 0 1;").hues());
        kit.due("none upright", 1, Kit.of(Kit.apart()).hues());
        kit.due("a path", 2, Kit.of(Kit.PATH).hues());
        kit.due("a ring of five", 3, Kit.of(RING).hues());
        kit.due("a frame of 3", 3, Kit.of(Kit.AXES3).hues());
        kit.due("a frame of 4", 4, Kit.of(Kit.AXES4).hues());
        kit.due("more than sides", 4, Kit.of(Kit.FIVE + "ray 1 0 1;ray 1 0 -1;ray 0 1 1;ray 0 1 -1;ray 1 1 1;"
                + "ray -1 1 1;ray 1 -1 1;ray 1 1 -1;").hues());
        kit.due("more than 4 sides", 5, Kit.of(Kit.CABELLO).hues());
        kit.due("by rule 1, too", 3, ruled(RING).hues());
        YesNoRays x = Kit.of(Kit.CABELLO);
        int[] sets = {(1 << 18) - 1, 3, (1 << 18) - 1, 1 << 17, 0, (1 << 18) - 2};
        int[] due = {5, 2, 5, 1, 0, 5};
        for (int i = 0; i < sets.length; i++) {
            x.only(sets[i]);
            kit.due("of the set " + sets[i] + ", whatever was asked before", due[i], x.hues());
        }
    }

    private void symmetries() {
        kit.due("3 sides, no rays", 48, new YesNoRays().symmetries(0));
        kit.due("4 sides, no rays", 384, Kit.of("sides 4;").symmetries(0));
        kit.due("turning all sides alone", 2, Kit.of("sides 3;ray 1 2 4;").symmetries(0));
        kit.due("turning all four sides alone", 2, Kit.of("sides 4;ray 1 2 4 8;").symmetries(0));
        kit.due("two sides change places", 4, Kit.of("sides 3;ray 1 2 4;ray 2 1 4;").symmetries(0));
        kit.due("not round, one way only", 2, Kit.of("sides 3;ray 1 2 4;ray 2 4 1;").symmetries(0));
        kit.due("round", 6, Kit.of("sides 3;ray 1 2 4;ray 2 4 1;ray 4 1 2;").symmetries(0));
        kit.due("one side turned", 4, Kit.of("sides 3;ray 1 2 4;ray -1 2 4;").symmetries(0));
        kit.due("a side that is 0 turned", 4, Kit.of("sides 3;ray 1 2 0;").symmetries(0));
        kit.due("times something", 4, Kit.of("sides 3;ray 1 2 4;ray 2 -4 -8;").symmetries(0));
        kit.due("all axes", 384, Kit.of(Kit.AXES4).symmetries(0));
        YesNoRays x = Kit.of("sides 3;ray 1 2 4;ray 2 1 4;ray 0 0 1;");
        kit.due("one that stays", 4, x.symmetries(0));
        x.keep(1, false);
        kit.due("not to one that is out", 2, x.symmetries(0));
        x.only(4);
        kit.due("one axis", 16, x.symmetries(0));
        x.only(0);
        kit.due("none in", 48, x.symmetries(0));
    }

    private void alike() {
        YesNoRays x = Kit.of("sides 3;ray 1 2 4;ray 2 1 4;ray 0 0 1;");
        kit.due("one another", 3, x.alike(0));
        kit.due("and back", 3, x.alike(1));
        kit.due("itself", 4, x.alike(2));
        kit.due("kinds", 2, x.symmetries(1));
        x.keep(1, false);
        kit.due("with that one out", 1, x.alike(0));
        YesNoRays far = Kit.of("sides 3;ray 2 4 0;ray 2 -1 0;ray -1 2 0;ray 6 3 0;");
        kit.due("times something", 15, far.alike(3));
        kit.due("one kind", 1, far.symmetries(1));
        kit.due("all axes", 15, Kit.of(Kit.AXES4).alike(3));
        kit.due("no kinds", 0, new YesNoRays().symmetries(1));
        kit.due("20 kinds", 20, Kit.of(kinds()).symmetries(1));
    }

    /** No side can change places or be turned by itself, as the first ray tells. */
    private static String kinds() {
        StringBuilder text = new StringBuilder("sides 3;");
        for (int i = 1; i <= 20; i++) {
            text.append("ray 1 ").append(1 + i % 5).append(' ').append(5 + i / 5).append(';');
        }
        return text.toString();
    }
}
