import java.util.function.IntFunction;

/** Each promise by hand: ordinary inputs, the edges that the document names, wrong inputs. */
public final class PromiseTests {
    private static final Kit KIT = new Kit("PromiseTests");
    private static final String FIVE = "sides 3;ray 1 0 0;ray 0 1 0;ray 0 0 1;ray 1 1 0;ray 1 -1 0;";
    private static final int[] WRONG = {-1, Integer.MIN_VALUE, Integer.MAX_VALUE, 20, 32, 33};

    public static void main(String[] args) {
        newObject();
        feeding();
        raysRead();
        faultsOfTexts();
        faultPlaces();
        counts();
        raysThemselves();
        frames();
        choices();
        forcing();
        trees();
        refusing();
        most();
        parities();
        symmetries();
        thirds();
        lacking();
        partsAndFar();
        apartAndHues();
        saying();
        acting();
        undoing();
        asking();
        faultsOfQuestions();
        wrongInputs("none told: ", new YesNoRays());
        wrongInputs("five told: ", Kit.of(FIVE));
        emptyObject();
        KIT.end();
    }

    private static void newObject() {
        YesNoRays x = new YesNoRays();
        int[] due = {3, 0, 0, 0, 0, 0, 0, 0, 1, 0};
        for (int what = 0; what < due.length; what++) {
            KIT.due("1: new, count " + what, due[what], x.count(what));
        }
        KIT.due("1: new, fault", -1, x.fault());
        KIT.due("1: new, undo", -1, x.undo());
        KIT.due("1: new, said", -1, x.said(0));
        KIT.due("1: NONE", -1, YesNoRays.NONE);
        KIT.due("1: HIDDEN", -1000000, YesNoRays.HIDDEN);
    }

    private static void feeding() {
        YesNoRays x = new YesNoRays();
        for (int i = 1; i <= 20; i++) {
            KIT.due("2: feed " + i, 20 * i, x.feed(0x73696465, 0x7320333b, 0x20202020, 0x20202020, 0x20202020));
        }
        KIT.due("2: feed when full", -1, x.feed(1, 2, 3, 4, 5));
        KIT.due("2: full", 400, x.count(7));
        KIT.due("2: first bytes only", 0, x.rays(20));
        KIT.due("2: empty then", 0, x.count(7));
        KIT.due("2: fed anew", 20, x.feed(-1, -1, -1, -1, -1));
        KIT.due("2: bytes above 127 are no letters", -11, x.rays(1));
        KIT.due("2: highest byte first", 0, x.fault());
    }

    private static void raysRead() {
        YesNoRays x = Kit.of(FIVE);
        x.keep(0, false);
        x.rule(1);
        KIT.due("3: a wrong text", -11, Kit.rays(x, "sides 4;ray 1"));
        KIT.due("3: D is left", 3, x.count(0));
        KIT.due("3: rays are left", 5, x.count(1));
        KIT.due("3: in is left", 4, x.count(2));
        KIT.due("3: rule is left", 1, x.count(5));
        KIT.due("3: acts are left", 2, x.count(6));
        KIT.due("3: the tape is empty", 0, x.count(7));
        Kit.feed(x, Kit.bytes(FIVE));
        KIT.dueThrow("3: too many", "bad", () -> x.rays(61));
        KIT.dueThrow("3: below 0", "bad", () -> x.rays(-1));
        KIT.dueThrow("3: least", "bad", () -> x.rays(Integer.MIN_VALUE));
        KIT.due("3: the tape is left", 60, x.count(7));
        KIT.due("3: the fault is left", 13, x.fault());
        KIT.due("3: blanks behind", 5, x.rays(60));
        KIT.due("3: all in", 5, x.count(2));
        KIT.due("3: rule 0", 0, x.count(5));
        KIT.due("3: no acts", 0, x.count(6));
        KIT.due("3: no undo", -1, x.undo());
        KIT.due("3: the same rays read again", 5, Kit.rays(x, FIVE));
        KIT.due("3: no rays", 0, Kit.rays(x, "sides 4;"));
        KIT.due("3: sides", 4, x.count(0));
        KIT.due("3: blanks anywhere", 1, Kit.rays(x, " \n sides\n0003 ; ray - 0 1-2;\n"));
        KIT.due("3: - 0", 0, x.ray(0, 0));
        KIT.due("3: -2", -2, x.ray(0, 2));
        KIT.due("3: without blanks", 1, Kit.rays(x, "sides4;ray-1-2-3-4;"));
        KIT.due("3: -4", -4, x.ray(0, 3));
        KIT.due("3: 007", 1, Kit.rays(x, "sides 3;ray 007 0000000000000000000000009 -01;"));
        KIT.due("3: 7", 7, x.ray(0, 0));
        KIT.due("3: 9", 9, x.ray(0, 1));
        KIT.due("3: 20 rays", 20, Kit.rays(x, "sides 3;" + manyRays(20)));
        YesNoRays full = new YesNoRays();
        String text = "sides 3;ray 1 2 3;";
        KIT.due("3: 400 bytes", 1, Kit.rays(full, text + " ".repeat(400 - text.length())));
    }

    private static String manyRays(int n) {
        StringBuilder text = new StringBuilder();
        for (int i = 0; i < n; i++) {
            text.append("ray 1 ").append(i % 10).append(' ').append(i / 10).append(';');
        }
        return text.toString();
    }

    private static void textFault(String text, int fault, int place) {
        YesNoRays x = Kit.of(FIVE);
        KIT.due("3: fault of " + text, -10 - fault, Kit.rays(x, text));
        KIT.due("4: place of fault of " + text, place, x.fault());
        KIT.due("3: nothing changed by " + text, 5, x.count(1));
    }

    private static void faultsOfTexts() {
        textFault("", 1, 0);
        textFault("   ", 1, 3);
        textFault("side 3;", 1, 0);
        textFault("sidess 3;", 1, 0);
        textFault("Sides 3;", 1, 0);
        textFault(" si des 3;", 1, 1);
        textFault("sides", 1, 5);
        textFault("sides ;", 1, 6);
        textFault("sides -3;", 1, 6);
        textFault("sides 2;", 2, 6);
        textFault("sides 5;", 2, 6);
        textFault("sides 0;", 2, 6);
        textFault("sides 4294967299;", 2, 6);
        textFault("sides 3", 1, 7);
        textFault("sides 3  ", 1, 9);
        textFault("sides 3 ray 1 0 0;", 1, 8);
        textFault("sides 3;;", 1, 8);
        textFault("sides 3;rays 1 0 0;", 1, 8);
        textFault("sides 3;3", 1, 8);
        textFault("sides 3;ray", 1, 11);
        textFault("sides 3;ray ;", 1, 12);
        textFault("sides 3;ray 1 0;", 1, 15);
        textFault("sides 3;ray 1 0 0", 1, 17);
        textFault("sides 3;ray 1 0 -", 1, 17);
        textFault("sides 3;ray 1 0 --1;", 1, 17);
        textFault("sides 3;ray 1 0 -;", 1, 17);
        textFault("sides 3;ray 1 0 +1;", 1, 16);
        textFault("sides 3;ray 1 0 x;", 1, 16);
        textFault("sides 3;ray 1 0 0 0;", 1, 18);
        textFault("sides 3;ray 1 0 0 99;", 1, 18);
        textFault("sides 3;ray 1 0 0 -1;", 1, 18);
        textFault("sides 3;ray 1\t0 0;", 1, 13);
        textFault("sides 4;ray 1 0 0;", 1, 17);
        textFault("sides 4;ray 0 0 0;", 1, 17);
        textFault("sides 4;ray 1 0 0 0 0;", 1, 20);
        textFault("sides 3;ray 10 0 0;", 2, 12);
        textFault("sides 3;ray 1 0 -10;", 2, 17);
        textFault("sides 3;ray 1 0 99999999999999999999999;", 2, 16);
        textFault("sides 3;ray 0 0 0;", 3, 17);
        textFault("sides 3;ray 0 -0 00 ;", 3, 20);
        textFault("sides 4;ray 0 0 0 0;", 3, 19);
        textFault("sides 3;ray 1 2 3;ray 1 2 3;", 3, 27);
        textFault("sides 3;ray 1 2 3;ray 2 4 6;", 3, 27);
        textFault("sides 3;ray 2 4 6;ray 3 6 9;", 3, 27);
        textFault("sides 3;ray 1 -2 0;ray 0 1 0;ray -3 6 0;", 3, 39);
        textFault("sides 4;ray 0 0 0 1;ray 0 0 0 -9;", 3, 32);
        textFault("sides 3;" + manyRays(20) + "ray", 4, 208);
        textFault("sides 3;" + manyRays(20) + " ray 1 0 0;", 4, 209);
        textFault("sides 3;" + manyRays(20) + " rays", 1, 209);
        textFault("sides 3;" + manyRays(20) + ";", 1, 208);
        textFault("sides 3;\0", 1, 8);
        textFault("sides 3;\u00e9", 1, 8);
    }

    private static void faultPlaces() {
        YesNoRays x = new YesNoRays();
        Kit.rays(x, "sides 7;");
        KIT.due("4: place", 6, x.fault());
        KIT.dueThrow("4: a throw", "bad", () -> x.rays(1));
        KIT.dueThrow("4: a throw of ask", "bad", () -> x.ask(1));
        KIT.due("4: the place stays", 6, x.fault());
        Kit.ask(x, "many x");
        KIT.due("4: of ask", 6, x.fault());
        Kit.ask(x, "many x=0");
        KIT.due("4: of a good ask", -1, x.fault());
        Kit.rays(x, "sides");
        KIT.due("4: of rays", 5, x.fault());
        Kit.rays(x, FIVE);
        KIT.due("4: of good rays", -1, x.fault());
    }

    private static void counts() {
        YesNoRays x = Kit.of(FIVE);
        x.rule(1);
        x.feed(0, 0, 0, 0, 0);
        int[] due = {3, 5, 5, 6, 2, 1, 1, 20, 5, 0};
        for (int what = 0; what < due.length; what++) {
            KIT.due("5: count " + what, due[what], x.count(what));
        }
        KIT.dueThrow("5: count -1", "none", () -> x.count(-1));
        KIT.dueThrow("5: count 10", "none", () -> x.count(10));
        KIT.due("5: all choices", 1 << 20, Kit.of("sides 3;" + apartRays()).count(8));
        KIT.due("5: refused", 1, Kit.of(Kit.CABELLO).count(9));
        KIT.due("5: refused, choices", 0, Kit.of(Kit.CABELLO).count(8));
    }

    /** 20 rays no two of which are upright. */
    private static String apartRays() {
        StringBuilder text = new StringBuilder();
        for (int i = 0; i < 20; i++) {
            text.append("ray 9 ").append(i % 5).append(' ').append(i / 5).append(';');
        }
        return text.toString();
    }

    private static void raysThemselves() {
        YesNoRays x = Kit.of(FIVE);
        KIT.due("6: ray", -1, x.ray(4, 1));
        KIT.dueThrow("6: k 3 of 3 sides", "none", () -> x.ray(4, 3));
        KIT.dueThrow("6: k -1", "none", () -> x.ray(4, -1));
        KIT.dueThrow("6: ray 5", "none", () -> x.ray(5, 0));
        KIT.due("6: k 3 of 4 sides", -1, Kit.of("sides 4;ray 1 1 1 -1;").ray(0, 3));
        KIT.due("7: in", true, x.isIn(2));
        x.keep(2, false);
        KIT.due("7: out", false, x.isIn(2));
        KIT.dueThrow("7: ray 5", "none", () -> x.isIn(5));
        KIT.due("6: one that is out", 1, x.ray(2, 2));
        KIT.due("8: product with one that is out", 0, x.product(0, 2));
        KIT.due("8: product", -315, Kit.of("sides 4;ray 9 9 9 9;ray -9 -9 -9 -8;").product(0, 1));
        KIT.due("8: of itself", 2, x.product(3, 3));
        KIT.dueThrow("8: other 5", "none", () -> x.product(0, 5));
        KIT.due("9: meets, one out", 2, x.meets(0));
        KIT.due("9: meets of one that is out", 0, x.meets(2));
        KIT.dueThrow("9: ray 5", "none", () -> x.meets(5));
    }

    private static void frames() {
        YesNoRays x = Kit.of("sides 3;ray 1 -1 0;ray 0 0 1;ray 1 0 0;ray 0 1 0;ray 1 1 0;");
        KIT.due("10: the least ray first", 1 | 2 | 16, x.frame(0));
        KIT.due("10: the next", 2 | 4 | 8, x.frame(1));
        KIT.dueThrow("10: no such", "none", () -> x.frame(2));
        KIT.dueThrow("10: -1", "none", () -> x.frame(-1));
        x.keep(0, false);
        KIT.due("10: of those that are in", 14, x.frame(0));
        YesNoRays y = Kit.of(Kit.CABELLO);
        KIT.due("10: of 4", 4, Integer.bitCount(y.frame(8)));
    }

    private static void choices() {
        YesNoRays x = Kit.of(FIVE);
        int[] due = {4, 9, 10, 17, 18};
        for (int k = 0; k < 5; k++) {
            KIT.due("11: choice " + k, due[k], x.choice(k));
        }
        KIT.dueThrow("11: choice 5", "none", () -> x.choice(5));
        KIT.dueThrow("11: choice -1", "none", () -> x.choice(-1));
        KIT.due("12: yes", 2, x.having(0, 1));
        KIT.due("12: no", 3, x.having(0, 0));
        KIT.dueThrow("12: yes 2", "none", () -> x.having(0, 2));
        KIT.dueThrow("12: yes -1", "none", () -> x.having(0, -1));
        KIT.dueThrow("12: ray 5", "none", () -> x.having(5, 0));
        x.keep(2, false);
        KIT.dueThrow("12: one that is out", "none", () -> x.having(2, 1));
        KIT.due("11: out ones are no", 0, x.choice(0) & 4);
        KIT.due("11: rule 0 asks pairs outside of frames", 9, x.count(8));
        KIT.due("11: the last by rule 0", 2 | 16, x.choice(8));
        x.rule(1);
        KIT.due("11: rule 1 doesn't", 16, x.count(8));
        KIT.due("11: the last by rule 1", 1 | 2 | 8 | 16, x.choice(15));
        KIT.due("12: by rule 1", 8, x.having(0, 1));
        YesNoRays all = Kit.of("sides 3;" + apartRays());
        KIT.due("11: of 2 to the power of 20", 654321, all.choice(654321));
        KIT.due("11: the last of these", (1 << 20) - 1, all.choice((1 << 20) - 1));
        KIT.dueThrow("11: behind the last of these", "none", () -> all.choice(1 << 20));
        YesNoRays none = Kit.of(Kit.CABELLO);
        KIT.dueThrow("11: none", "none", () -> none.choice(0));
        KIT.due("12: none has it as yes", 0, none.having(3, 1));
        KIT.due("12: nor as no", 0, none.having(3, 0));
    }

    private static void forcing() {
        YesNoRays x = Kit.of(FIVE);
        KIT.due("13: nothing", 0, x.forced(0, 0, 0));
        KIT.due("13: nothing, no", 0, x.forced(0, 0, 1));
        KIT.due("13: nothing, clash", 0, x.forced(0, 0, 2));
        KIT.due("13: the last of a frame", 4, x.forced(0, 3, 0));
        KIT.due("13: and on", 27, x.forced(0, 3, 1));
        KIT.due("13: both", 1, x.forced(1, 1, 2));
        KIT.due("13: both, hidden", YesNoRays.HIDDEN, x.forced(1, 1, 0));
        KIT.due("13: two yes that are upright", 1, x.forced(3, 0, 2));
        KIT.due("13: a frame without", YesNoRays.HIDDEN, x.forced(0, 7, 1));
        KIT.due("13: a frame without, found late", 1, x.forced(2, 24, 2));
        KIT.dueThrow("13: what 3", "none", () -> x.forced(0, 0, 3));
        KIT.dueThrow("13: what -1", "none", () -> x.forced(0, 0, -1));
        KIT.dueThrow("13: what before sets", "none", () -> x.forced(-1, 32, 3));
        KIT.dueThrow("13: yes not in", "bad", () -> x.forced(32, 0, 0));
        KIT.dueThrow("13: no not in", "bad", () -> x.forced(0, -1, 2));
        x.keep(2, false);
        KIT.dueThrow("13: one that is out", "bad", () -> x.forced(4, 0, 0));
        KIT.due("13: upright by rule 0", 2, x.forced(1, 0, 1));
        x.rule(1);
        KIT.due("13: upright by rule 1", 0, x.forced(1, 0, 1));
        KIT.due("13: both yes by rule 1", 0, x.forced(3, 0, 2));
    }

    private static void trees() {
        YesNoRays x = Kit.of(FIVE);
        KIT.due("14: leafs", 1, x.tree(0));
        KIT.due("14: depth", 2, x.tree(1));
        KIT.due("14: clashes", 0, x.tree(2));
        KIT.dueThrow("14: what 3", "none", () -> x.tree(3));
        KIT.dueThrow("14: what -1", "none", () -> x.tree(-1));
        YesNoRays none = Kit.of(Kit.CABELLO);
        KIT.due("14: leafs of a refused set are clashes", none.tree(0), none.tree(2));
        KIT.due("14: of which it has some", true, none.tree(0) > 2);
        YesNoRays all = Kit.of("sides 3;" + apartRays());
        KIT.due("14: one leaf", 1, all.tree(0));
        KIT.due("14: all tried", 20, all.tree(1));
        // 0 yes makes 3 no, 1 yes makes 4 no; so 5 is yes and 2 no. By rule 1 only the frame's rays bar one another.
        YesNoRays y = Kit.of("sides 3;ray 0 1 1;ray 1 0 1;ray 1 1 0;ray 1 0 0;ray 0 1 0;ray 0 0 1;");
        KIT.due("14: two tried", 2, y.tree(1));
        y.rule(1);
        KIT.due("14: four tried by rule 1", 4, y.tree(1));
        y.only(0);
        KIT.due("14: none in", 1, y.tree(0));
        KIT.due("14: none in, depth", 0, y.tree(1));
    }

    private static void refusing() {
        YesNoRays x = Kit.of(FIVE);
        KIT.due("15: nothing refused", 0, x.spared(false));
        KIT.due("15: nothing refused, back", 0, x.spared(true));
        KIT.due("16: nothing refused", 0, x.fewest());
        KIT.due("17: not refused", false, x.isRefused(31));
        KIT.due("17: nothing is not refused", false, x.isRefused(0));
        KIT.dueThrow("17: not in", "bad", () -> x.isRefused(32));
        KIT.dueThrow("17: below 0", "bad", () -> x.isRefused(-1));
        x.keep(2, false);
        KIT.dueThrow("17: out", "bad", () -> x.isRefused(4));
        String two = "ray 1 2 3 4;";
        YesNoRays y = Kit.of(Kit.CABELLO.replace("sides 4;", "sides 4;" + two) + "ray 9 8 7 6;");
        int eighteen = (1 << 19) - 2;
        KIT.due("15: two spared", eighteen, y.spared(false));
        KIT.due("15: two spared, back", eighteen, y.spared(true));
        KIT.due("16: fewest", eighteen, y.fewest());
        KIT.due("17: refused", true, y.isRefused(eighteen));
        KIT.due("17: all refused", true, y.isRefused((1 << 20) - 1));
        KIT.due("17: less is not", false, y.isRefused(eighteen & ~2));
        y.rule(1);
        KIT.due("16: fewest by rule 1", eighteen, y.fewest());
        y.keep(5, false);
        KIT.due("16: none with one out", 0, y.fewest());
        KIT.due("15: none with one out", 0, y.spared(true));
    }

    private static void most() {
        YesNoRays x = Kit.of(FIVE);
        KIT.due("18: most", 2, x.most(0));
        KIT.due("18: the first set", 4, x.most(1));
        KIT.dueThrow("18: what 2", "none", () -> x.most(2));
        KIT.dueThrow("18: what -1", "none", () -> x.most(-1));
        x.keep(2, false);
        KIT.due("18: no frames", 0, x.most(0));
        KIT.due("18: no frames, no rays", 0, x.most(1));
        KIT.due("18: all but one", 8, Kit.of(Kit.CABELLO).most(0));
        YesNoRays y = Kit.of("sides 4;ray 1 0 0 0;ray 0 1 0 0;ray 0 0 1 0;ray 0 0 0 1;");
        KIT.due("18: one frame", 1, y.most(0));
        KIT.due("18: the least ray", 1, y.most(1));
    }

    private static void parities() {
        YesNoRays x = Kit.of(FIVE);
        KIT.due("19: none", -1, x.parity());
        KIT.dueThrow("20: none", "none", () -> x.proof(0));
        KIT.due("21: the empty set alone", 0, x.even());
        YesNoRays y = Kit.of(Kit.CABELLO);
        KIT.due("19: nine", 9, y.parity());
        for (int i = 0; i < 9; i++) {
            KIT.due("20: frame " + i, i, y.proof(i));
        }
        KIT.dueThrow("20: frame 9", "none", () -> y.proof(9));
        KIT.dueThrow("20: frame -1", "none", () -> y.proof(-1));
        KIT.due("21: two sets", 1, y.even());
        y.keep(0, false);
        KIT.due("19: with one out", -1, y.parity());
        // Two planes that are upright on one another, two pairs each: the four frames are even together.
        YesNoRays z = Kit.of("sides 4;ray 1 0 0 0;ray 0 1 0 0;ray 1 1 0 0;ray 1 -1 0 0;"
                + "ray 0 0 1 0;ray 0 0 0 1;ray 0 0 1 1;ray 0 0 1 -1;");
        KIT.due("21: an even set of four", 1, z.even());
        KIT.due("19: which is no parity", -1, z.parity());
    }

    private static void symmetries() {
        YesNoRays x = Kit.of(FIVE);
        KIT.due("22: symmetries", 16, x.symmetries(0));
        KIT.due("22: kinds", 3, x.symmetries(1));
        KIT.dueThrow("22: what 2", "none", () -> x.symmetries(2));
        KIT.dueThrow("22: what -1", "none", () -> x.symmetries(-1));
        KIT.due("23: alike", 24, x.alike(4));
        KIT.due("23: alike, itself alone", 4, x.alike(2));
        KIT.dueThrow("23: ray 5", "none", () -> x.alike(5));
        x.keep(0, false);
        KIT.due("22: with one out", 8, x.symmetries(0));
        KIT.due("23: alike with one out", 2, x.alike(1));
        KIT.dueThrow("23: one that is out", "none", () -> x.alike(0));
        KIT.due("22: none told, 3 sides", 48, Kit.of("sides 3;").symmetries(0));
        KIT.due("22: none told, 4 sides", 384, Kit.of("sides 4;").symmetries(0));
        KIT.due("22: all turned together always counts", 2, Kit.of("sides 3;ray 1 2 4;").symmetries(0));
        YesNoRays y = Kit.of("sides 3;ray 2 4 0;ray 2 -1 0;ray -1 2 0;ray 6 3 0;");
        KIT.due("22: times something", 16, y.symmetries(0));
        KIT.due("23: times something", 15, y.alike(0));
    }

    private static void thirds() {
        YesNoRays x = Kit.of("sides 3;ray 1 1 1;ray 1 -1 0;ray 0 0 -9;ray 6 0 0;");
        int[] due = {1, 1, -2};
        for (int k = 0; k < 3; k++) {
            KIT.due("24: third " + k, due[k], x.third(0, 1, k));
            KIT.due("24: the other way about " + k, due[k], x.third(1, 0, k));
        }
        KIT.due("24: no common part", 1, x.third(2, 3, 1));
        KIT.due("24: 0 first", 0, x.third(2, 3, 0));
        KIT.dueThrow("24: k 3", "none", () -> x.third(0, 1, 3));
        KIT.dueThrow("24: k -1", "none", () -> x.third(0, 1, -1));
        KIT.dueThrow("24: not upright", "none", () -> x.third(0, 2, 0));
        KIT.dueThrow("24: one ray", "none", () -> x.third(0, 0, 0));
        KIT.dueThrow("24: ray 4", "none", () -> x.third(0, 4, 0));
        x.keep(1, false);
        KIT.dueThrow("24: one that is out", "none", () -> x.third(0, 1, 0));
        YesNoRays y = Kit.of(Kit.CABELLO);
        KIT.dueThrow("24: 4 sides", "none", () -> y.third(0, 1, 0));
        YesNoRays large = Kit.of("sides 3;ray 9 8 0;ray 8 -9 1;");
        KIT.due("24: above 9", 8, large.third(0, 1, 0));
        KIT.due("24: below -9", -145, large.third(0, 1, 2));
    }

    private static void lacking() {
        YesNoRays x = Kit.of(FIVE);
        KIT.due("25: none", 0, x.lacking(0));
        KIT.due("25: none, first", -1, x.lacking(1));
        KIT.due("25: none, out", 0, x.lacking(2));
        x.keep(2, false);
        KIT.due("25: two", 2, x.lacking(0));
        KIT.due("25: the first", 1, x.lacking(1));
        KIT.due("25: both by one that is out", 2, x.lacking(2));
        x.keep(0, false);
        KIT.due("25: one", 1, x.lacking(0));
        KIT.due("25: the first is 3, 4", 64, x.lacking(1));
        KIT.dueThrow("25: what 3", "none", () -> x.lacking(3));
        KIT.dueThrow("25: what -1", "none", () -> x.lacking(-1));
        YesNoRays y = Kit.of("sides 3;ray 9 8 0;ray 8 -9 1;ray 1 -1 0;ray 1 1 0;ray 0 0 -3;");
        y.keep(4, false);
        KIT.due("25: one without a third", 2, y.lacking(0));
        KIT.due("25: one with a third, times something", 1, y.lacking(2));
        YesNoRays nine = Kit.of("sides 3;ray 9 -1 0;ray 0 0 1;ray -1 -9 0;");
        nine.keep(2, false);
        KIT.due("25: a third that has a 9", 1, nine.lacking(2));
        YesNoRays z = Kit.of("sides 4;ray 1 0 0 0;ray 0 1 0 0;ray 0 0 1 0;ray 0 0 0 1;");
        z.keep(3, false);
        KIT.due("25: 4 sides", 3, z.lacking(0));
        KIT.due("25: 4 sides, out", 0, z.lacking(2));
    }

    private static void partsAndFar() {
        YesNoRays x = Kit.of(FIVE);
        KIT.due("26: one part", 1, x.parts());
        KIT.due("27: two steps", 2, x.far(4, 1));
        KIT.due("27: one step", 1, x.far(4, 2));
        KIT.due("27: itself", 0, x.far(4, 4));
        KIT.dueThrow("27: ray 5", "none", () -> x.far(0, 5));
        KIT.dueThrow("27: ray -1", "none", () -> x.far(-1, 0));
        x.keep(2, false);
        KIT.due("26: two parts", 2, x.parts());
        KIT.due("27: not there", -1, x.far(0, 3));
        KIT.dueThrow("27: one that is out", "none", () -> x.far(0, 2));
        x.keep(3, false);
        KIT.due("26: one ray is a part", 2, x.parts());
        KIT.due("26: each by itself", 20, Kit.of("sides 3;" + apartRays()).parts());
    }

    private static void apartAndHues() {
        YesNoRays x = Kit.of(FIVE);
        KIT.due("28: apart", 2, x.apart(0));
        KIT.due("28: the least set", 9, x.apart(1));
        KIT.dueThrow("28: what 2", "none", () -> x.apart(2));
        KIT.dueThrow("28: what -1", "none", () -> x.apart(-1));
        KIT.due("29: hues", 3, x.hues());
        x.rule(1);
        x.only(1 | 2);
        KIT.due("28: upright by rule 1, too", 1, x.apart(0));
        KIT.due("29: upright by rule 1, too", 2, x.hues());
        x.only(0);
        KIT.due("28: none in", 0, x.apart(0));
        KIT.due("28: none in, set", 0, x.apart(1));
        KIT.due("29: none in", 0, x.hues());
        YesNoRays all = Kit.of("sides 3;" + apartRays());
        KIT.due("28: all", (1 << 20) - 1, all.apart(1));
        KIT.due("28: all, how many", 20, all.apart(0));
        KIT.due("29: one hue", 1, all.hues());
    }

    private static void saying() {
        YesNoRays x = new YesNoRays();
        KIT.due("30: none told", 8, x.say());
        KIT.due("31: none told", "sides 3;", Kit.saidText(x));
        Kit.rays(x, "sides 4 ; ray 1 -1 09 - 9 ; ray 0 0 1 0;ray 0 0 0 2;");
        KIT.due("31: as it was then", "sides 3;", Kit.saidText(x));
        x.keep(1, false);
        String due = "sides 4;ray 1 -1 9 -9;ray 0 0 0 2;";
        KIT.due("30: those that are in", due.length(), x.say());
        x.keep(0, false);
        Kit.rays(x, "sides 3;");
        KIT.due("31: those that are in", due, Kit.saidText(x));
        KIT.due("31: behind the last", -1, x.said(due.length()));
        KIT.due("31: -1", -1, x.said(-1));
        KIT.due("31: far behind", -1, x.said(Integer.MAX_VALUE));
        StringBuilder longest = new StringBuilder("sides 4;");
        for (int i = 0; i < 20; i++) {
            longest.append("ray -9 -8 -").append(1 + i % 9).append(" -").append(1 + i / 9).append(';');
        }
        YesNoRays y = Kit.of(longest.toString());
        KIT.due("30: the longest", 328, y.say());
        KIT.due("31: the longest", longest.toString(), Kit.saidText(y));
    }

    private static void acting() {
        YesNoRays x = Kit.of(FIVE);
        KIT.due("32: it was in", true, x.keep(1, false));
        KIT.due("32: it was out", false, x.keep(1, false));
        KIT.due("32: out, kept in", false, x.keep(1, true));
        KIT.due("32: in, kept in", true, x.keep(1, true));
        KIT.due("32: each is an act", 4, x.count(6));
        KIT.dueThrow("32: ray 5", "none", () -> x.keep(5, true));
        KIT.due("33: only", 2, x.only(9));
        KIT.due("33: out", false, x.isIn(1));
        KIT.due("33: others come in", 3, x.only(22));
        KIT.due("33: in", true, x.isIn(1));
        KIT.due("33: none", 0, x.only(0));
        KIT.dueThrow("33: ray 5", "bad", () -> x.only(32));
        KIT.dueThrow("33: below 0", "bad", () -> x.only(Integer.MIN_VALUE));
        KIT.due("34: rule", 0, x.rule(1));
        KIT.due("34: what it was", 1, x.rule(0));
        KIT.dueThrow("34: 2", "bad", () -> x.rule(2));
        KIT.dueThrow("34: -1", "bad", () -> x.rule(-1));
        KIT.due("34: acts, throws are none", 9, x.count(6));
    }

    private static void undoing() {
        YesNoRays x = Kit.of(FIVE);
        KIT.due("35: none", -1, x.undo());
        x.rule(1);
        x.keep(0, false);
        x.only(6);
        KIT.due("35: only undone", 2, x.undo());
        KIT.due("35: four in", 4, x.count(2));
        KIT.due("35: out still", false, x.isIn(0));
        KIT.due("35: keep undone", 1, x.undo());
        KIT.due("35: in again", true, x.isIn(0));
        KIT.due("35: rule still", 1, x.count(5));
        KIT.due("35: rule undone", 0, x.undo());
        KIT.due("35: rule 0", 0, x.count(5));
        for (int i = 0; i < 25; i++) {
            x.only(i);
        }
        KIT.due("35: 20 are kept", 20, x.count(6));
        for (int i = 23; i >= 4; i--) {
            KIT.due("35: left", i - 4, x.undo());
            KIT.due("35: bits", Integer.bitCount(i), x.count(2));
        }
        KIT.due("35: no more", -1, x.undo());
        KIT.due("35: the 5th stands", true, x.isIn(2));
        for (int i = 0; i < 50; i++) {
            x.keep(i % 5, i % 2 == 0);
            x.undo();
        }
        KIT.due("35: forth and back", 1, x.count(2));
        KIT.due("35: nothing kept", 0, x.count(6));
    }

    private static void question(YesNoRays x, String text, int due) {
        KIT.due("36: " + text, due, Kit.ask(x, text));
        KIT.due("36: tape behind " + text, 0, x.count(7));
    }

    private static void asking() {
        YesNoRays x = Kit.of(FIVE);
        question(x, "many ray<3", 3);
        question(x, "first x=y", 2);
        question(x, "first y < 0", 4);
        question(x, "first z > 1", -1);
        question(x, "many x=-1 or y=- 1", 1);
        question(x, "many w=0", 5);
        question(x, "many square=2", 2);
        question(x, "first meets>2", 2);
        question(x, "first frames=2", 2);
        question(x, "first yes=1", 2);
        question(x, "many not yes=1", 4);
        question(x, "many 999>-999", 5);
        question(x, "many 1=000001", 5);
        question(x, "many x=1 or y=1 and z=1", 3);
        question(x, "many (x=1 or y=1) and z=1", 0);
        question(x, "many not x=1 and y=1", 1);
        question(x, "many not(x=1 and y=1)", 4);
        question(x, "many not not x=1", 3);
        question(x, "many not not not not not not x=1", 3);
        question(x, "many((((((x=1))))))", 3);
        question(x, "many (((not(not x=1))))", 3);
        question(x, "many (x=1)and(x=1)and(x=1)and not x=0 and not x=0 and(not x=0)and(x=1)", 3);
        question(x, "\n many\nx = 1\n", 3);
        x.keep(2, false);
        question(x, "many ray=2", 0);
        question(x, "many meets=1", 4);
        question(x, "many frames=0", 4);
        question(x, "first yes=1", -1);
        x.rule(1);
        question(x, "many yes=0", 4);
        question(Kit.of(Kit.CABELLO), "many yes=0", 18);
        question(Kit.of("sides 4;ray 1 2 3 -4;"), "many w=-4 and square=30", 1);
        question(new YesNoRays(), "many x=0", 0);
        question(new YesNoRays(), "first not x=0", -1);
        YesNoRays y = Kit.of(FIVE);
        for (int i = 0; i < 11; i++) {
            Kit.feed(y, Kit.bytes("many ray<3          "));
        }
        KIT.dueThrow("36: above 200", "bad", () -> y.ask(201));
        KIT.dueThrow("36: below 0", "bad", () -> y.ask(-1));
        KIT.dueThrow("36: not so many", "bad", () -> y.ask(221));
        KIT.due("36: nothing changed", 220, y.count(7));
        KIT.due("36: the first bytes", 3, y.ask(20));
        String longest = "many ray<3" + " ".repeat(190);
        question(y, longest, 3);
    }

    private static void questionFault(String text, int fault, int place) {
        YesNoRays x = Kit.of(FIVE);
        question(x, text, -1000000000 - fault);
        KIT.due("4: place of fault of " + text, place, x.fault());
    }

    private static void faultsOfQuestions() {
        questionFault("", 1, 0);
        questionFault("  ", 1, 2);
        questionFault("some x=1", 1, 0);
        questionFault("manyx=1", 1, 0);
        questionFault("many", 1, 4);
        questionFault("many ", 1, 5);
        questionFault("many many", 1, 5);
        questionFault("many x", 1, 6);
        questionFault("many x y", 1, 7);
        questionFault("many x=", 1, 7);
        questionFault("many x==1", 1, 7);
        questionFault("many x<=1", 1, 7);
        questionFault("many x=-", 1, 8);
        questionFault("many x=-y", 1, 8);
        questionFault("many x=--1", 1, 8);
        questionFault("many -x=1", 1, 6);
        questionFault("many x=1 2", 1, 9);
        questionFault("many x=1 1000", 1, 9);
        questionFault("many x=1000", 2, 7);
        questionFault("many x=-1000", 2, 8);
        questionFault("many 99999999999999999999=x", 2, 5);
        questionFault("many x=1 or", 1, 11);
        questionFault("many x=1 and or", 1, 13);
        questionFault("many x=1 not", 1, 9);
        questionFault("many x=1)", 1, 8);
        questionFault("many (x=1", 1, 9);
        questionFault("many (x=1 or)", 1, 12);
        questionFault("many ()", 1, 6);
        questionFault("many (x)=1", 1, 7);
        questionFault("many not", 1, 8);
        questionFault("many v=1", 1, 5);
        questionFault("many xx=1", 1, 5);
        questionFault("many X=1", 1, 5);
        questionFault("many not not not not not not not x=1", 3, 29);
        questionFault("many(((((((x=1)))))))", 3, 10);
        questionFault("many (not (not (not (x=1))))", 3, 20);
        questionFault("many not(not(not((x=1))))", 3, 17);
        questionFault("many x=1 or not not not not not not(x=1)", 3, 35);
        questionFault("many (x=1 and not x=1 and not x=1 and not(not(not(not(not x=1)))))", 3, 49);
        questionFault("many x=\u00ff", 1, 7);
    }

    private static void wrongInputs(String of, YesNoRays x) {
        for (int wrong : WRONG) {
            wrongRay(of + "ray", wrong, r -> x.ray(r, 0));
            wrongRay(of + "isIn", wrong, x::isIn);
            wrongRay(of + "product", wrong, r -> x.product(r, r));
            wrongRay(of + "meets", wrong, x::meets);
            wrongRay(of + "frame", wrong, x::frame);
            wrongRay(of + "choice", wrong, x::choice);
            wrongRay(of + "having", wrong, r -> x.having(r, 1));
            wrongRay(of + "alike", wrong, x::alike);
            wrongRay(of + "third", wrong, r -> x.third(0, r, 0));
            wrongRay(of + "third, the first", wrong, r -> x.third(r, 1, 0));
            wrongRay(of + "far", wrong, r -> x.far(0, r));
            wrongRay(of + "far, the first", wrong, r -> x.far(r, 0));
            wrongRay(of + "keep", wrong, r -> x.keep(r, true));
            wrongRay(of + "proof", wrong, x::proof);
            wrongRay(of + "symmetries", wrong, x::symmetries);
            wrongRay(of + "tree", wrong, x::tree);
            wrongRay(of + "count", wrong, x::count);
        }
    }

    private static void emptyObject() {
        YesNoRays x = new YesNoRays();
        KIT.dueThrow("only on an empty object", "bad", () -> x.only(1));
        KIT.dueThrow("isRefused on an empty object", "bad", () -> x.isRefused(1));
        KIT.due("only nothing on an empty object", 0, x.only(0));
        KIT.due("rays 0", -11, x.rays(0));
        KIT.due("ask 0", -1000000001, x.ask(0));
        KIT.due("even", 0, x.even());
        KIT.due("fewest", 0, x.fewest());
        KIT.due("lacking", -1, x.lacking(1));
    }

    private static void wrongRay(String call, int ray, IntFunction<Object> run) {
        KIT.dueThrow(call + " " + ray, "none", () -> run.apply(ray));
    }
}
