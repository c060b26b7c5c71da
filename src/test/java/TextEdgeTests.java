import java.util.Map;

/** Boundary cases of "What it is", of "Terms" as far as texts go, and of the promises 1 to 4. */
public final class TextEdgeTests {
    private static final String TERMS = "Terms";

    private final Kit kit;

    private TextEdgeTests(Kit kit) {
        this.kit = kit;
    }

    public static void main(String[] args) {
        Kit kit = new Kit("TextEdgeTests");
        all(kit);
        kit.end();
    }

    static void all(Kit kit) {
        TextEdgeTests tests = new TextEdgeTests(kit);
        kit.edge("What it is", "An object is used for at most 512 calls after it has been made;", tests::lastCall);
        tests.rayTerms();
        tests.tokenTerms();
        tests.faultTerms();
        tests.promises();
    }

    private void rayTerms() {
        kit.edge(TERMS, "D is 3 or 4 (3 at first, without RAYS).", this::sides);
        kit.edge(TERMS, "RAYS 0 to at most 19:", this::twentyRays);
        kit.edge(TERMS, "each D whole numbers (-9 to 9), not all 0;", this::numbers);
        kit.edge(TERMS, "no RAY is another one's numbers times something.", this::timesSomething);
        kit.edge(TERMS, "Each is IN or OUT (IN at first).", this::inAtFirst);
        kit.edge(TERMS, "A TEXT of at most 400 bytes tells them.", this::longestText);
    }

    private void tokenTerms() {
        kit.edge(TERMS, "TOKENS: a WORD is a row of small letters,", this::words);
        kit.edge(TERMS, "a NUMBER a row of figures (it counts as what it is, 007 as 7);", this::figures);
        kit.edge(TERMS, "any other byte but blanks (32, 10) is one by itself;", this::allBytes);
        kit.edge(TERMS, "blanks stand where one likes, not in WORDS, NUMBERS.", this::blanks);
        kit.edge(TERMS, "In quotes is what stands there, * any number of times, | one of some, in brackets { }? what may "
                + "be missing.", this::quoted);
        kit.edge(TERMS, "TEXT: 'sides' NUMBER ';' ('ray' SIDED SIDED SIDED {SIDED}? ';')*.", this::textForm);
        kit.edge(TERMS, "(D; as many SIDED as D.)", this::asManyAsSides);
        kit.edge(TERMS, "SIDED: {'-'}? NUMBER (0 to 9).", this::sided);
    }

    private void faultTerms() {
        kit.edge(TERMS, "FAULTS: the text is gone through from its first byte on, TOKEN by TOKEN; at the first TOKEN at "
                + "which one of these is so it is that (the first one of this list), its place the TOKEN's first byte:",
                this::firstFault);
        kit.edge(TERMS, "1 it can't stand there (the end, where the text can't end: its length);", this::cutText);
        kit.edge(TERMS, "2 a NUMBER that isn't as told;", this::wrongNumber);
        kit.edge(TERMS, "3 the ; of a RAY that is 0 all over, or a RAY's that is told already, times something;",
                this::wrongRay);
        kit.edge(TERMS, "4 the word of a 21st RAY.", this::oneTooMany);
    }

    private void promises() {
        kit.edge("Promise 1", "D 3, no RAYS, RULE 0.", this::newObject);
        kit.edge("Promise 2", "Twenty bytes come behind the tape, of each number the highest first: how many it has;",
                this::twentyBytes);
        kit.edge("Promise 2", "NONE, and none come, if it would have more than 400.", this::fullTape);
        kit.edge("Promise 3", "The tape's first n bytes", this::firstBytes);
        kit.edge("Promise 3", "(it is empty then, whatever comes of it)", this::emptyThen);
        kit.edge("Promise 3", "are RAYS (all IN, RULE 0, no ACTS are kept): how many.", this::allAnew);
        kit.edge("Promise 3", "-10 less the FAULT (nothing else changes).", this::nothingElse);
        kit.edge("Promise 3", "IllegalArgumentException: the tape has not so many, n below 0 (nothing changes).",
                this::refusedTexts);
        kit.edge("Promise 4", "The place of the latest FAULT of rays(), ask() (the latest of these that was no "
                + "IllegalArgumentException);", this::latestFault);
        kit.edge("Promise 4", "NONE: it had none, or there was none.", this::noFault);
    }

    /** Fault 0: so many rays are due as place tells. */
    private void text(String text, int fault, int place) {
        YesNoRays x = new YesNoRays();
        kit.due("rays of " + text, fault == 0 ? place : -10 - fault, Kit.rays(x, text));
        kit.due("fault of " + text, fault == 0 ? YesNoRays.NONE : place, x.fault());
    }

    private void lastCall() {
        YesNoRays x = Kit.of(Kit.FIVE);
        // Three feeds and rays() have been called: 4 calls; then 507 more, and the 512th.
        for (int i = 0; i < 507; i++) {
            kit.due("call " + (5 + i), i % 10 < 5, x.keep(i % 5, i % 10 >= 5));
        }
        kit.due("call 512", 19, x.undo());
        YesNoRays y = Kit.of(Kit.CABELLO);
        for (int i = 0; i < 498; i++) {
            kit.due("call " + (14 + i), 1, y.count(9));
        }
        kit.due("the 512th call", (1 << 18) - 1, y.fewest());
    }

    private void sides() {
        kit.due("D at first", 3, new YesNoRays().count(0));
        kit.due("rays at first", 0, new YesNoRays().count(1));
        kit.due("D 3", 3, Kit.of("sides 3;").count(0));
        kit.due("D 4", 4, Kit.of("sides 4;").count(0));
        kit.due("D 3 again", 3, again("sides 4;", "sides 3;").count(0));
        for (int d = 0; d < 100; d++) {
            text("sides " + d + ";", d == 3 || d == 4 ? 0 : 2, d == 3 || d == 4 ? 0 : 6);
        }
    }

    private static YesNoRays again(String first, String then) {
        YesNoRays x = Kit.of(first);
        Kit.rays(x, then);
        return x;
    }

    private void twentyRays() {
        text("sides 3;", 0, 0);
        text("sides 3;ray 1 0 0;", 0, 1);
        text(someRays(19), 0, 19);
        text(someRays(20), 0, 20);
        text(someRays(21), 4, 208);
        YesNoRays x = Kit.of(someRays(20));
        kit.due("ray 0 is the first that was told", 0, x.ray(0, 1));
        kit.due("ray 19 is the last that was told", 9, x.ray(19, 1));
        kit.due("ray 19's last number", 1, x.ray(19, 2));
        kit.dueThrow("ray 20", "none", () -> x.ray(20, 0));
        kit.dueThrow("ray -1", "none", () -> x.ray(-1, 0));
    }

    /** 8 bytes, and 10 for each ray. */
    private static String someRays(int n) {
        StringBuilder text = new StringBuilder("sides 3;");
        for (int i = 0; i < n; i++) {
            text.append("ray 1 ").append(i % 10).append(' ').append(i / 10).append(';');
        }
        return text.toString();
    }

    private void numbers() {
        for (int d = 3; d <= 4; d++) {
            text("sides " + d + ";ray" + " 0".repeat(d) + ";", 3, 11 + 2 * d);
            for (int k = 0; k < d; k++) {
                for (int v : new int[] {-9, -1, 1, 9}) {
                    YesNoRays x = Kit.of(oneNumber(d, k, v));
                    kit.due(v + " at " + k + " of " + d, v, x.ray(0, k));
                    kit.due("others beside it", 0, x.ray(0, (k + 1) % d));
                }
                text(oneNumber(d, k, 10), 2, 12 + 2 * k);
                text(oneNumber(d, k, -10), 2, 13 + 2 * k);
            }
        }
    }

    private static String oneNumber(int d, int k, int v) {
        return "sides " + d + ";ray" + " 0".repeat(k) + " " + v + " 0".repeat(d - 1 - k) + ";";
    }

    private void timesSomething() {
        text("sides 3;ray 1 2 3;ray 1 2 3;", 3, 27);
        text("sides 3;ray 1 2 3;ray 2 4 6;", 3, 27);
        text("sides 3;ray 2 4 6;ray 1 2 3;", 3, 27);
        text("sides 3;ray 2 4 6;ray 3 6 9;", 3, 27);
        text("sides 3;ray 1 2 3;ray -1 -2 -3;", 3, 30);
        text("sides 3;ray 2 -4 6;ray -3 6 -9;", 3, 30);
        text("sides 3;ray 0 0 1;ray 0 0 -9;", 3, 28);
        text("sides 4;ray 0 3 0 6;ray 0 -2 0 -4;", 3, 33);
        text("sides 3;ray 1 2 3;ray 1 2 4;", 0, 2);
        text("sides 3;ray 1 2 3;ray 1 2 -3;", 0, 2);
        text("sides 3;ray 1 2 3;ray -1 2 3;", 0, 2);
        text("sides 3;ray 1 2 3;ray 2 4 5;", 0, 2);
        text("sides 3;ray 1 2 3;ray 3 2 1;", 0, 2);
        text("sides 3;ray 1 2 0;ray 2 4 1;ray 0 1 2;", 0, 3);
        text("sides 4;ray 1 2 3 4;ray 1 2 3 5;ray 2 4 6 9;", 0, 3);
        // Neighbours at the ends of -9 to 9, where a row that is taken for one number could carry over.
        text("sides 3;ray 0 2 -9;ray 0 1 9;ray 2 -9 0;ray 1 9 1;ray 2 -9 -9;ray 1 9 9;ray 1 9 0;ray 2 -9 1;", 0, 8);
        text("sides 4;ray 0 0 2 -9;ray 0 0 1 9;ray 0 2 -9 0;ray 0 1 9 1;ray 0 2 -9 -9;ray 0 1 9 9;ray 2 -9 -9 -9;"
                + "ray 1 9 9 9;ray 2 -9 -9 0;ray 1 9 9 1;ray 2 -9 0 0;ray 1 9 1 0;ray 1 9 0 1;", 0, 13);
        String nineteen = someRays(19);
        text(nineteen + "ray -9 0 0;", 3, 208);
        text(nineteen + "ray 2 8 2;", 3, 207);
        text(nineteen + "ray 2 8 3;", 0, 20);
        YesNoRays x = new YesNoRays();
        Kit.rays(x, "sides 3;ray 1 2 3;");
        kit.due("rays that were told by an earlier text don't count", 1, Kit.rays(x, "sides 3;ray 1 2 3;"));
    }

    private void inAtFirst() {
        YesNoRays x = Kit.of(someRays(20));
        for (int ray = 0; ray < 20; ray++) {
            kit.due("ray " + ray + " at first", true, x.isIn(ray));
            x.keep(ray, false);
            kit.due("ray " + ray + " then", false, x.isIn(ray));
        }
        kit.due("none is in", 0, x.count(2));
    }

    private void longestText() {
        String rays = someRays(20);
        String text = rays.substring(0, 198) + " ".repeat(400 - rays.length()) + rays.substring(198);
        text(text, 0, 20);
        YesNoRays x = new YesNoRays();
        Kit.feed(x, Kit.bytes(text));
        kit.due("without its last byte", -11, x.rays(399));
        kit.due("without its last byte, the place", 399, x.fault());
        YesNoRays y = new YesNoRays();
        Kit.feed(y, Kit.bytes(" ".repeat(400)));
        kit.due("400 blanks", -11, y.rays(400));
        kit.due("400 blanks, the place", 400, y.fault());
    }

    private void words() {
        text("sides3;ray1 0 0;", 0, 1);
        text("Sides 3;", 1, 0);
        text("sidesz 3;", 1, 0);
        text("asides 3;", 1, 0);
        text("side 3;", 1, 0);
        text("sidet 3;", 1, 0);
        text("sides`3;", 1, 5);
        text("sides{3;", 1, 5);
        text("sidesA3;", 1, 5);
        text("sidesZ3;", 1, 5);
        text("`sides 3;", 1, 0);
        text("sides 3;raz 1 0 0;", 1, 8);
        text("sides 3;raya 1 0 0;", 1, 8);
        text("sides 3;rayray 1 0 0;", 1, 8);
        text("sides 3;ray{1 0 0;", 1, 11);
        text("sides 3;ray`1 0 0;", 1, 11);
    }

    private void figures() {
        YesNoRays x = Kit.of("sides 003;ray 007 09 0000;");
        kit.due("007", 7, x.ray(0, 0));
        kit.due("09", 9, x.ray(0, 1));
        kit.due("0000", 0, x.ray(0, 2));
        text("sides " + "0".repeat(390) + "4;", 0, 0);
        text("sides " + "0".repeat(389) + "10;", 2, 6);
        text("sides 3/", 1, 7);
        text("sides 3:", 1, 7);
        text("sides 3.0;", 1, 7);
        // 3 and 4 again after 2 to the power of 8, 16, 32, 64; and numbers whose first or last figures alone fit.
        String[] around = {"259", "65539", "65540", "4294967299", "4294967300", "18446744073709551619",
            "18446744073709551620", "2147483651", "1000003", "30", "33", "03000000000000", "40000000000000000000000"};
        for (String number : around) {
            text("sides " + number + ";", 2, 6);
        }
        String[] wrapped = {"256", "65536", "4294967296", "4294967297", "18446744073709551616",
            "18446744073709551617", "340282366920938463463374607431768211457", "10", "19", "90", "1000000", "1000001"};
        for (String number : wrapped) {
            text("sides 3;ray " + number + " 1 1;", 2, 12);
            text("sides 3;ray 1 1 -" + number + ";", 2, 17);
        }
        text("sides 3;ray 1 1 " + "9".repeat(380) + ";", 2, 16);
    }

    private void allBytes() {
        for (int b = 0; b < 256; b++) {
            String text = "sides 3" + (char) b + ";ray 1 0 0;";
            if (b == 32 || b == 10) {
                text(text, 0, 1);
            } else if (b >= '0' && b <= '9') {
                text(text, 2, 6);
            } else {
                text(text, 1, b == ';' ? 8 : 7);
            }
            text("sides 3;ray 1 0 0;" + (char) b, b == 32 || b == 10 ? 0 : 1, b == 32 || b == 10 ? 1 : 18);
        }
        text("sides 3;;", 1, 8);
        text("sides 3;ray 1 1 --1;", 1, 17);
    }

    private void blanks() {
        text(" \n\n sides \n 3\n;\n ray\n1  -  2\n\n-\n3 ; \n\n", 0, 1);
        text("sides3;ray-1-2-3;ray 4-5 6;", 0, 2);
        text("si des 3;", 1, 0);
        text("sides 3;r ay 1 0 0;", 1, 8);
        text("sides 3;ray 1 0 0 1;", 1, 18);
        text("sides 3;ray 1 0\n0\n1;", 1, 18);
        text("sides 0 3;", 2, 6);
        text("sides 3 3;", 1, 8);
        YesNoRays x = Kit.of("sides 3;ray 1 2\n3;");
        kit.due("a blank parts numbers", 2, x.ray(0, 1));
        text("sides\t3;", 1, 5);
        text("sides\r3;", 1, 5);
        text("sides\0003;", 1, 5);
    }

    private void quoted() {
        text("'sides' 3;", 1, 0);
        text("sides 3;(ray 1 0 0;)", 1, 8);
        text("sides 3;*", 1, 8);
        text("sides 3;ray 1 0 0;ray 0 1 0;ray 0 0 1;", 0, 3);
        text("sides 3;ray {-}1 0 0;", 1, 12);
    }

    private void textForm() {
        text("", 1, 0);
        text("3;", 1, 0);
        text(";", 1, 0);
        text("ray 1 0 0;", 1, 0);
        text("sides sides 3;", 1, 6);
        text("sides;", 1, 5);
        text("sides -3;", 1, 6);
        text("sides ray", 1, 6);
        text("sides 3 ray 1 0 0;", 1, 8);
        text("sides 3;sides 3;", 1, 8);
        text("sides 3;1 0 0;", 1, 8);
        text("sides 3;-", 1, 8);
        text("sides 3;ray;", 1, 11);
        text("sides 3;ray ray 1 0 0;", 1, 12);
        text("sides 3;ray 1 0 0", 1, 17);
        text("sides 3;ray 1 0 0 ray 0 1 0;", 1, 18);
        text("sides 3;ray 1 0 0;;", 1, 18);
        text("sides 3;ray 1 0 0;0", 1, 18);
    }

    private void asManyAsSides() {
        text("sides 3;ray 1 2;", 1, 15);
        text("sides 3;ray 1 2 3;", 0, 1);
        text("sides 3;ray 1 2 3 4;", 1, 18);
        text("sides 3;ray 1 2 3 -4;", 1, 18);
        text("sides 4;ray 1 2 3;", 1, 17);
        text("sides 4;ray 1 2 3 4;", 0, 1);
        text("sides 4;ray 1 2 3 4 5;", 1, 20);
        text("sides 4;ray 1 2 3 4 -5;", 1, 20);
        YesNoRays x = again("sides 4;ray 1 2 3 4;", "sides 3;ray 5 6 7;");
        kit.due("nothing is left of an earlier fourth number", 110, x.product(0, 0));
    }

    private void sided() {
        for (int v = 0; v <= 9; v++) {
            YesNoRays x = Kit.of("sides 3;ray 1 " + v + " -" + v + ";");
            kit.due("" + v, v, x.ray(0, 1));
            kit.due("-" + v, -v, x.ray(0, 2));
        }
        text("sides 3;ray 1 1 10;", 2, 16);
        text("sides 3;ray 1 1 -10;", 2, 17);
        text("sides 3;ray 1 1 - 10;", 2, 18);
        text("sides 3;ray 1 1 +1;", 1, 16);
        text("sides 3;ray 1 1 --1;", 1, 17);
        text("sides 3;ray 1 1 1-;", 1, 17);
        text("sides 3;ray 1 1 -;", 1, 17);
        text("sides 3;ray 1 - ray;", 1, 16);
    }

    private void firstFault() {
        // Two faults at one token: the first of the list.
        text("sides 3;ray 1 2 3 10;", 1, 18);
        text("sides 4;ray 0 0 0;", 1, 17);
        text("sides 4;ray 1 2 3 4;ray 1 2 3;", 1, 29);
        text(someRays(19) + "ray 9 9 9 ray", 1, 208);
        text(someRays(20) + "rays", 1, 208);
        text(someRays(20) + "0", 1, 208);
        // Two tokens: the first of them, whatever its fault is.
        text("sides 5 5;", 2, 6);
        text("sides 3;ray 10 x;", 2, 12);
        text("sides 3;ray x 10;", 1, 12);
        text("sides 3;ray 0 0 0;x", 3, 17);
        text("sides 3;ray 0 0 0 x", 1, 18);
        text("sides 3;ray 0 0 0;ray 10", 3, 17);
        text(someRays(21).replace("ray 1 0 0;", "ray 0 0 0;"), 3, 17);
        text(someRays(20) + "ray 10 10 10;", 4, 208);
        text(someRays(20) + " \n ray", 4, 211);
        text("sides 3 ;ray 0 0 0\n\n;", 3, 20);
        text("sides   12;", 2, 8);
    }

    private void cutText() {
        String text = "sides  3 ; ray -9 0 - 8;\nray 1 22;";
        String words = "sides  3 ; ray -9 0 - 8;";
        for (int n = 0; n <= words.length(); n++) {
            YesNoRays x = new YesNoRays();
            Kit.feed(x, Kit.bytes(text));
            boolean inSides = n > 0 && n < 5;
            boolean inRay = n > 11 && n < 14;
            boolean atEnd = n >= 10 && n <= 11 || n == 24;
            kit.due("cut at " + n, atEnd ? n == 24 ? 1 : 0 : -11, x.rays(n));
            kit.due("place of the cut at " + n, atEnd ? -1 : inSides ? 0 : inRay ? 11 : n, x.fault());
        }
        text("sides 3;ray 1 0", 1, 15);
        text("sides 3;ray 1 0 \n ", 1, 18);
        text("sides 3 ", 1, 8);
    }

    private void wrongNumber() {
        text("sides 2;", 2, 6);
        text("sides 5;", 2, 6);
        text("sides  0;", 2, 7);
        text("sides 3;ray 9 9 10;", 2, 16);
        text("sides 3;ray 9 9 -10;", 2, 17);
        text("sides 3;ray 9 9 010;", 2, 16);
        text("sides 4;ray 9 9 9 10;", 2, 18);
        text("sides 4;ray 9 9 9 -0010;", 2, 19);
    }

    private void wrongRay() {
        text("sides 3;ray 0 0 0;", 3, 17);
        text("sides 3;ray -0 0 00  ;", 3, 21);
        text("sides 4;ray 0 0 0 0;", 3, 19);
        text("sides 4;ray 0 0 0 1;", 0, 1);
        text("sides 3;ray 1 1 1;ray 0 0 0;", 3, 27);
        text("sides 3;ray 3 3 3;ray 1 0 0;ray -7 -7 -7;", 3, 40);
        text("sides 3;ray 1 0 0;ray 1 0 0 ;", 3, 28);
    }

    private void oneTooMany() {
        text(someRays(20) + "ray", 4, 208);
        text(someRays(20) + "ray 9 9 9;", 4, 208);
        text(someRays(20) + "  ray 1 0 0;", 4, 210);
        text(someRays(20) + "  ", 0, 20);
        text(someRays(20) + "ra", 1, 208);
        text(someRays(19) + "ray 9 9 8;", 0, 20);
    }

    private void newObject() {
        Kit.of(Kit.CABELLO).rule(1);
        YesNoRays x = new YesNoRays();
        kit.due("D", 3, x.count(0));
        kit.due("rays", 0, x.count(1));
        kit.due("rule", 0, x.count(5));
        kit.due("acts", 0, x.count(6));
        kit.due("tape", 0, x.count(7));
        kit.dueThrow("ray 0", "none", () -> x.isIn(0));
        kit.due("two objects have nothing in common", 1, other(x).count(1));
        kit.due("the first of them", 0, x.count(1));
    }

    private static YesNoRays other(YesNoRays first) {
        first.feed(0, 0, 0, 0, 0);
        return Kit.of("sides 4;ray 1 2 3 4;");
    }

    private void twentyBytes() {
        YesNoRays x = new YesNoRays();
        // "sides 4;ray 1 -2 3 -", "4;ray 5 6 7 8;      "
        kit.due("the first", 20, x.feed(0x73696465, 0x7320343b, 0x72617920, 0x31202d32, 0x2033202d));
        kit.due("the second", 40, x.feed(0x343b7261, 0x79203520, 0x36203720, 0x383b2020, 0x20202020));
        kit.due("rays", 2, x.rays(40));
        int[] due = {1, -2, 3, -4, 5, 6, 7, 8};
        for (int i = 0; i < 8; i++) {
            kit.due("number " + i, due[i], x.ray(i / 4, i % 4));
        }
        for (int at = 0; at < 20; at++) {
            YesNoRays y = new YesNoRays();
            byte[] bytes = Kit.bytes("sides 4;ray 1 2 3 4;");
            bytes[at] = (byte) 200;
            Kit.feed(y, bytes);
            y.rays(20);
            int word = at < 5 ? 0 : at;
            kit.due("a byte of 200 at " + at, at > 8 && at < 11 ? 8 : word, y.fault());
        }
        kit.due("numbers below 0", 20, new YesNoRays().feed(-1, -2, Integer.MIN_VALUE, -128, -129));
    }

    private void fullTape() {
        YesNoRays x = new YesNoRays();
        String text = someRays(20) + " ".repeat(191) + "x";
        Kit.feed(x, Kit.bytes(text.substring(0, 380)));
        kit.due("380", 380, x.count(7));
        Kit.feed(x, Kit.bytes(text.substring(380)));
        kit.due("400", 400, x.count(7));
        kit.due("20 more", YesNoRays.NONE, x.feed(0x20202020, 0x20202020, 0x20202020, 0x20202020, 0x20202020));
        kit.due("once more", YesNoRays.NONE, x.feed(0, 0, 0, 0, 0));
        kit.due("400 still", 400, x.count(7));
        kit.dueThrow("401", "bad", () -> x.rays(401));
        kit.dueThrow("420", "bad", () -> x.rays(420));
        kit.due("none came", -11, x.rays(400));
        kit.due("the last byte is what it was", 399, x.fault());
        kit.due("empty then", 20, x.feed(0x73696465, 0x7320343b, 0x20202020, 0x20202020, 0x20202020));
        kit.due("read from the first byte on", 0, x.rays(20));
        kit.due("D", 4, x.count(0));
    }

    private void firstBytes() {
        YesNoRays x = new YesNoRays();
        kit.due("no bytes of none", -11, x.rays(0));
        kit.due("no bytes of none, the place", 0, x.fault());
        String text = "sides 3;ray 1 0 0;ray 0 1 0;x";
        int[] n = {0, 8, 18, 28, 29};
        int[] due = {-11, 0, 1, 2, -11};
        for (int i = 0; i < n.length; i++) {
            Kit.feed(x, Kit.bytes(text));
            kit.due("the first " + n[i], due[i], x.rays(n[i]));
        }
        kit.due("the place of x", 28, x.fault());
        Kit.feed(x, Kit.bytes("sides 34;ray 1 0 12;"));
        kit.due("a number that is cut", -11, x.rays(7));
        kit.due("a number that is cut, the place", 7, x.fault());
        Kit.feed(x, Kit.bytes("sides 3;rays"));
        kit.due("a word that is cut", -11, x.rays(11));
        kit.due("a word that is cut, the place", 11, x.fault());
        Kit.feed(x, Kit.bytes("sides 3;ray 1 0 0;  "));
        kit.due("all of them", 1, x.rays(20));
    }

    private void emptyThen() {
        YesNoRays x = new YesNoRays();
        Kit.feed(x, Kit.bytes(Kit.FIVE));
        x.rays(59);
        kit.due("tape behind rays", 0, x.count(7));
        kit.dueThrow("no byte is left", "bad", () -> x.rays(1));
        Kit.feed(x, Kit.bytes(Kit.FIVE));
        x.rays(8);
        kit.due("tape behind rays of its first bytes", 0, x.count(7));
        Kit.feed(x, Kit.bytes(Kit.FIVE));
        x.rays(9);
        kit.due("tape behind a fault", 0, x.count(7));
        Kit.feed(x, Kit.bytes(Kit.FIVE));
        kit.due("no bytes", -11, x.rays(0));
        kit.due("tape behind rays of no bytes", 0, x.count(7));
        kit.due("the next come from the start", 5, Kit.rays(x, Kit.FIVE));
    }

    private void allAnew() {
        YesNoRays x = Kit.of(Kit.FIVE);
        x.only(3);
        x.rule(1);
        kit.due("how many", 4, Kit.rays(x, Kit.AXES4));
        kit.due("all in", 4, x.count(2));
        kit.due("rule", 0, x.count(5));
        kit.due("acts", 0, x.count(6));
        kit.due("undo", YesNoRays.NONE, x.undo());
        kit.due("undone, all in", 4, x.count(2));
        kit.due("frames", 15, x.frame(0));
        x.only(0);
        kit.due("the same once more", 4, Kit.rays(x, Kit.AXES4));
        kit.due("all in again", 4, x.count(2));
        kit.due("two that aren't upright", 2, Kit.rays(x, "sides 4;ray 1 2 3 4;ray 1 0 0 0;"));
        kit.due("what was upright on ray 0 is gone", 0, x.meets(0));
        kit.due("fewer", 0, Kit.rays(x, "sides 3;"));
        kit.dueThrow("rays of before are gone", "none", () -> x.isIn(0));
        kit.due("D", 3, x.count(0));
    }

    private static YesNoRays busy() {
        YesNoRays x = Kit.of(Kit.FIVE);
        x.keep(0, false);
        x.rule(1);
        x.keep(3, false);
        x.say();
        x.rule(1);
        return x;
    }

    private void nothingElse() {
        String[] texts = {"", "sides 5;", "sides 4;ray 1 0 0 0;ray 0 0 0 0;", someRays(21),
            "sides 4;ray 1 0 0 0;ray 0 1 0 0;x"};
        int[] due = {-11, -12, -13, -14, -11};
        Map<String, String> before = Seen.of(TextEdgeTests::busy);
        for (int i = 0; i < texts.length; i++) {
            String text = texts[i];
            kit.due("fault of " + text, due[i], Kit.rays(busy(), text));
            Map<String, String> after = Seen.of(() -> afterText(text));
            for (String what : before.keySet()) {
                if (!what.equals("fault")) {
                    kit.due(what + " behind a fault of " + text, before.get(what), after.get(what));
                }
            }
        }
    }

    private static YesNoRays afterText(String text) {
        YesNoRays x = busy();
        Kit.rays(x, text);
        return x;
    }

    private void refusedTexts() {
        for (int fed = 0; fed <= 400; fed += 100) {
            YesNoRays x = new YesNoRays();
            Kit.feed(x, Kit.bytes(" ".repeat(fed)));
            for (int n : new int[] {fed + 1, fed + 20, 401, -1, -20, Integer.MIN_VALUE, Integer.MAX_VALUE}) {
                kit.dueThrow("rays " + n + " of " + fed, "bad", () -> x.rays(n));
                kit.due("tape", fed, x.count(7));
            }
            kit.due("fault", YesNoRays.NONE, x.fault());
            kit.due("rays of all " + fed, -11, x.rays(fed));
        }
    }

    private void latestFault() {
        YesNoRays x = new YesNoRays();
        Kit.rays(x, "sides 7;");
        kit.due("of rays", 6, x.fault());
        kit.due("told twice", 6, x.fault());
        kit.dueThrow("rays 1", "bad", () -> x.rays(1));
        kit.due("behind a refused rays", 6, x.fault());
        kit.dueThrow("ask 1", "bad", () -> x.ask(1));
        kit.dueThrow("ask -1", "bad", () -> x.ask(-1));
        kit.due("behind a refused ask", 6, x.fault());
        Kit.ask(x, "many x=1 x");
        kit.due("of ask", 9, x.fault());
        Kit.rays(x, "sides 3;ray 1 0 0;ray 2 0 0;");
        kit.due("of rays again", 27, x.fault());
        Kit.rays(x, "x");
        kit.due("place 0", 0, x.fault());
        x.feed(0, 0, 0, 0, 0);
        x.undo();
        x.say();
        kit.dueThrow("a call that is refused", "none", () -> x.isIn(0));
        kit.due("behind other calls", 0, x.fault());
    }

    private void noFault() {
        YesNoRays x = new YesNoRays();
        kit.due("at first", YesNoRays.NONE, x.fault());
        kit.dueThrow("rays 1", "bad", () -> x.rays(1));
        kit.due("behind a refused call alone", YesNoRays.NONE, x.fault());
        Kit.rays(x, "sides 7;");
        Kit.rays(x, Kit.FIVE);
        kit.due("behind rays that had none", YesNoRays.NONE, x.fault());
        Kit.rays(x, "sides 7;");
        Kit.ask(x, "many x=1");
        kit.due("behind an ask that had none", YesNoRays.NONE, x.fault());
        Kit.rays(x, "sides 7;");
        Kit.ask(x, "first x=9");
        kit.due("behind an ask that answered NONE", YesNoRays.NONE, x.fault());
    }
}
