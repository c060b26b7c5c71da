import java.util.Map;

/** Boundary cases of questions: part 3 of "Terms", and promise 36. */
public final class QuestionEdgeTests {
    private static final String TERMS = "Terms";
    private static final int FAULT = -1000000000;

    private final Kit kit;

    private QuestionEdgeTests(Kit kit) {
        this.kit = kit;
    }

    public static void main(String[] args) {
        Kit kit = new Kit("QuestionEdgeTests");
        all(kit);
        kit.end();
    }

    static void all(Kit kit) {
        QuestionEdgeTests tests = new QuestionEdgeTests(kit);
        tests.terms();
        tests.promises();
    }

    private void terms() {
        kit.edge(TERMS, "A QUESTION is a TEXT of at most 200 bytes: ('many' | 'first') TEST.", this::questions);
        kit.edge(TERMS, "TEST: BOTH ('or' BOTH)*. BOTH: FACT ('and' FACT)*.", this::tests);
        kit.edge(TERMS, "FACT: 'not' FACT | '(' TEST ')' | VALUE ('<' | '=' | '>') VALUE.", this::facts);
        kit.edge(TERMS, "VALUE: {'-'}? NUMBER (0 to 999)", this::values);
        kit.edge(TERMS, "| of a RAY: 'ray' (its number), 'x', 'y', 'z', 'w' (its numbers; w 0, if D is 3),",
                this::numbersOfRays);
        kit.edge(TERMS, "'square' (of all its numbers' squares), 'meets' (to how many it is UPRIGHT), 'frames' (in how "
                + "many it is),", this::countsOfRays);
        kit.edge(TERMS, "'yes' (1 in CHOICE 0, 0 else, also where there is none).", this::yes);
        kit.edge(TERMS, "FAULTS as in 1", this::faults);
        kit.edge(TERMS, "(3: the 7th of 'not', '(' that are open at once, 'not' till its FACT ends).", this::open);
        kit.edge(TERMS, "It is asked of all RAYS that are IN: for how many it holds; the first one (NONE).", this::ofAll);
    }

    private void promises() {
        kit.edge("Promise 36", "The tape's first n bytes", this::firstBytes);
        kit.edge("Promise 36", "(it is empty then, whatever comes of it)", this::emptyThen);
        kit.edge("Promise 36", "are a QUESTION: its answer;", this::answer);
        kit.edge("Promise 36", "-1000000000 less the FAULT.", this::faultAnswers);
        kit.edge("Promise 36", "IllegalArgumentException: the tape has not so many, n below 0, above 200 (nothing "
                + "changes).", this::refused);
    }

    private void due(YesNoRays x, String text, int due) {
        kit.due(text, due, Kit.ask(x, text));
        kit.due("fault of " + text, YesNoRays.NONE, x.fault());
    }

    private void fault(String text, int fault, int place) {
        YesNoRays x = Kit.of(Kit.FIVE);
        kit.due("fault of " + text, FAULT - fault, Kit.ask(x, text));
        kit.due("place of the fault of " + text, place, x.fault());
    }

    private void questions() {
        YesNoRays x = Kit.of(Kit.FIVE);
        due(x, "many x=1", 3);
        due(x, "first x=0", 1);
        fault("x=1", 1, 0);
        fault("any x=1", 1, 0);
        fault("manyfirst x=1", 1, 0);
        fault("many first x=1", 1, 5);
        fault("first", 1, 5);
        due(x, "many x=1" + " ".repeat(192), 3);
        due(x, "many x=" + "0".repeat(192) + "1", 3);
        due(x, " ".repeat(192) + "many x=1", 3);
        YesNoRays y = Kit.of(Kit.FIVE);
        Kit.feed(y, Kit.bytes(" ".repeat(193) + "many x=12"));
        kit.dueThrow("201 bytes", "bad", () -> y.ask(201));
        kit.due("200 of them, the last of which is cut off", FAULT - 1, y.ask(200));
        kit.due("the place is the end", 200, y.fault());
    }

    private void tests() {
        YesNoRays x = Kit.of(Kit.FIVE);
        due(x, "many ray=0", 1);
        due(x, "many ray=0 or ray=1 or ray=4", 3);
        due(x, "many ray<4 and ray>0 and ray=2", 1);
        due(x, "many ray=0 or ray=1 and ray=4", 1);
        due(x, "many ray=4 and ray=1 or ray=0", 1);
        due(x, "many ray=0 and ray=1 or ray=2 and ray>1 or ray=3", 2);
        String ors = "many ray=0" + "or ray=1".repeat(23);
        due(x, ors, 2);
        String ands = "first ray>0" + "and ray>1".repeat(21);
        due(x, ands, 2);
        fault("many or x=1", 1, 5);
        fault("many x=1 or", 1, 11);
        fault("many x=1 or or x=1", 1, 12);
        fault("many x=1 and", 1, 12);
        fault("many and", 1, 5);
        fault("many x=1 xor x=1", 1, 9);
        fault("many x=1 orx=1", 1, 9);
        fault("many x=1,x=1", 1, 8);
    }

    private void facts() {
        YesNoRays x = Kit.of(Kit.FIVE);
        due(x, "many not x=1", 2);
        due(x, "many not not x=1", 3);
        due(x, "many not x=1 or x=1", 5);
        due(x, "many not (x=1 or x=0)", 0);
        due(x, "many (x=1)", 3);
        due(x, "many not(not(x=1))", 3);
        due(x, "many (x=1 or y=1) and z=0", 4);
        due(x, "many ray<2", 2);
        due(x, "many ray=2", 1);
        due(x, "many ray>2", 2);
        due(x, "many ray<0", 0);
        due(x, "many ray>4", 0);
        due(x, "many 2<ray", 2);
        fault("many", 1, 4);
        fault("many not", 1, 8);
        fault("many nott x=1", 1, 5);
        fault("many ()", 1, 6);
        fault("many (x=1", 1, 9);
        fault("many (x=1))", 1, 10);
        fault("many x=1)", 1, 8);
        fault("many )", 1, 5);
        fault("many (x)=1", 1, 7);
        fault("many x", 1, 6);
        fault("many x 1", 1, 7);
        fault("many x=", 1, 7);
        fault("many x=(1)", 1, 7);
        fault("many x=not 1", 1, 7);
        fault("many x==1", 1, 7);
        fault("many x<>1", 1, 7);
        fault("many x=1=1", 1, 8);
        fault("many x;1", 1, 6);
        fault("many x?1", 1, 6);
        fault("many =1", 1, 5);
        fault("many x=1 not x=1", 1, 9);
        fault("many x=1 (x=1)", 1, 9);
        fault("many x=1 many x=1", 1, 9);
    }

    private void values() {
        YesNoRays x = Kit.of(Kit.FIVE);
        due(x, "many 0=-0", 5);
        due(x, "many 999>998", 5);
        due(x, "many 999=0999", 5);
        due(x, "many -999<-998", 5);
        due(x, "many - 999 = -\n999", 5);
        due(x, "many y=-1", 1);
        due(x, "many -1=y", 1);
        fault("many x=1000", 2, 7);
        fault("many 1000=x", 2, 5);
        fault("many x=-1000", 2, 8);
        fault("many x=4294967296", 2, 7);
        fault("many x=4294967297", 2, 7);
        fault("many x=18446744073709551617", 2, 7);
        fault("many x=" + "9".repeat(193), 2, 7);
        fault("many x=--1", 1, 8);
        fault("many x=+1", 1, 7);
        fault("many x=-y", 1, 8);
        fault("many -x=1", 1, 6);
        fault("many x=-", 1, 8);
        fault("many x=1-1", 1, 8);
        fault("many x=1 1", 1, 9);
    }

    private void numbersOfRays() {
        YesNoRays x = Kit.of("sides 4;ray -9 8 -7 6;ray 9 -8 7 5;");
        due(x, "first x=-9 and y=8 and z=-7 and w=6", 0);
        due(x, "first x=9 and y=-8 and z=7 and w=5", 1);
        due(x, "first ray=1", 1);
        due(x, "many ray<2", 2);
        due(Kit.of(Kit.ELEVEN), "first ray>18", 19);
        due(Kit.of(Kit.ELEVEN), "first ray>19", YesNoRays.NONE);
        YesNoRays y = Kit.of(Kit.FIVE);
        due(y, "many w=0", 5);
        Kit.rays(x, Kit.FIVE);
        due(x, "many w=0", 5);
        due(y, "many x=x and y=y and z=z and w=w and ray=ray", 5);
        fault("many v=1", 1, 5);
        fault("many a=1", 1, 5);
        fault("many xy=1", 1, 5);
        fault("many rays=1", 1, 5);
        fault("many r=1", 1, 5);
        fault("many X=1", 1, 5);
    }

    private void countsOfRays() {
        YesNoRays x = Kit.of("sides 4;ray 9 9 9 9;ray 9 9 9 -8;ray 0 0 0 1;");
        due(x, "many square=324", 1);
        due(x, "many square=307", 1);
        due(x, "first square<2", 2);
        YesNoRays y = Kit.of(Kit.FIVE);
        due(y, "first square=2", 3);
        due(y, "many meets=2", 4);
        due(y, "first meets=4", 2);
        due(y, "many frames=1", 4);
        due(y, "first frames=2", 2);
        y.keep(2, false);
        due(y, "many meets=1", 4);
        due(y, "many frames=0", 4);
        y.rule(1);
        due(y, "many meets=1", 4);
        due(Kit.of(Kit.apart()), "many meets=0 and frames=0", 20);
        due(Kit.of(Kit.CABELLO), "many frames=2", 18);
        fault("many meet=1", 1, 5);
        fault("many frame=1", 1, 5);
        fault("many squares=1", 1, 5);
    }

    private void yes() {
        YesNoRays x = Kit.of(Kit.FIVE);
        due(x, "first yes=1", 2);
        due(x, "many yes=1", 1);
        due(x, "many yes=0", 4);
        due(x, "many yes<0 or yes>1", 0);
        x.keep(2, false);
        due(x, "many yes=0", 4);
        YesNoRays refused = Kit.of(Kit.CABELLO);
        due(refused, "many yes=0", 18);
        due(refused, "first yes=1", YesNoRays.NONE);
        refused.keep(0, false);
        int due = Integer.bitCount(refused.choice(0));
        kit.due("with one out there is a choice", true, due > 0);
        due(refused, "many yes=1", due);
        due(new YesNoRays(), "many yes=0", 0);
        fault("many yess=1", 1, 5);
        fault("many no=1", 1, 5);
    }

    private void faults() {
        fault("", 1, 0);
        fault("   ", 1, 3);
        fault("many x=1 1000", 1, 9);
        fault("many 1000 1000", 2, 5);
        fault("many x=1000 or", 2, 7);
        fault("many x=1 or  1000=x", 2, 13);
        fault("many x\t=1", 1, 6);
        fault("many x=1\0", 1, 8);
        fault("many x=\u00ff", 1, 7);
        fault("many  x=1 \n (", 1, 12);
        String text = "many not ( x = - 12 )";
        int[] places = {0, 0, 0, 0, 4, 5, 5, 5, 8, 9, 10, 11, 12, 13, 14, 15, 16, 17, 18, 19, 20};
        for (int n = 0; n < text.length(); n++) {
            YesNoRays x = new YesNoRays();
            Kit.feed(x, Kit.bytes(text));
            kit.due("cut at " + n, FAULT - 1, x.ask(n));
            kit.due("place of the cut at " + n, places[n], x.fault());
        }
        due(new YesNoRays(), text, 0);
    }

    private void open() {
        YesNoRays x = Kit.of(Kit.FIVE);
        due(x, "many not not not not not not x=1", 3);
        fault("many not not not not not not not x=1", 3, 29);
        due(x, "many ((((((x=1))))))", 3);
        fault("many (((((((x=1)))))))", 3, 11);
        due(x, "many not (not (not (x=1)))", 2);
        fault("many not (not (not ((x=1))))", 3, 20);
        fault("many (not (not (not (x=1))))", 3, 20);
        fault("many ((((((not x=1))))))", 3, 11);
        fault("many not not not not not not (x=1)", 3, 29);
        // What has ended isn't open any more: a bracket at its other end, 'not' as its fact ends.
        due(x, "many (x=1)and(x=1)and(x=1)and(x=1)and(x=1)and(x=1)and(x=1)and(x=1)", 3);
        due(x, "many not x=0 and not x=0 and not x=0 and not x=0 and not x=0 and not x=0 and not x=0", 3);
        due(x, "many (((((not x=0 and not x=0 or not x=0)))))", 3);
        due(x, "many not (((((x=0))))) and not (((((x=0)))))", 3);
        due(x, "many not not not not not (x=0) and not not not not not not x=1", 3);
        fault("many (((((not x=0 and not not x=0)))))", 3, 26);
        fault("many (((((not x=0) and ((x=0)))))", 1, 33);
        fault("many (((((x=0) and (((x=0)))))))", 3, 21);
        // The 7th is a fault as it is read, whatever comes behind it; but not where it can't stand.
        fault("many not not not not not not not", 3, 29);
        fault("many (((((((", 3, 11);
        fault("many ((((((x(", 1, 12);
        fault("many not not not not not not x not", 1, 31);
    }

    private void ofAll() {
        YesNoRays x = Kit.of(Kit.apart());
        due(x, "many 1=1", 20);
        due(x, "first 1=1", 0);
        due(x, "many 1=2", 0);
        due(x, "first 1=2", YesNoRays.NONE);
        x.only(1 << 19 | 1 << 7);
        due(x, "many 1=1", 2);
        due(x, "first 1=1", 7);
        due(x, "first not ray=7", 19);
        due(x, "many not 1=1", 0);
        x.only(0);
        due(x, "many 1=1", 0);
        due(x, "first 1=1", YesNoRays.NONE);
        due(x, "many not 1=2", 0);
        due(new YesNoRays(), "many 1=1", 0);
        due(new YesNoRays(), "first not 1=2", YesNoRays.NONE);
    }

    private void firstBytes() {
        YesNoRays x = Kit.of(Kit.FIVE);
        String text = "many ray<12or x=1 )";
        int[] n = {0, 9, 10, 11, 13, 17, 19};
        int[] due = {FAULT - 1, FAULT - 1, 1, 5, FAULT - 1, 5, FAULT - 1};
        int[] places = {0, 9, -1, -1, 13, -1, 18};
        for (int i = 0; i < n.length; i++) {
            Kit.feed(x, Kit.bytes(text));
            kit.due("the first " + n[i], due[i], x.ask(n[i]));
            kit.due("the first " + n[i] + ", fault", places[i], x.fault());
        }
    }

    private void emptyThen() {
        YesNoRays x = Kit.of(Kit.FIVE);
        Kit.feed(x, Kit.bytes("many x=1" + " ".repeat(392)));
        kit.due("full", 400, x.count(7));
        x.ask(8);
        kit.due("behind an answer", 0, x.count(7));
        kit.dueThrow("no byte is left", "bad", () -> x.ask(1));
        Kit.feed(x, Kit.bytes("many x=1"));
        x.ask(7);
        kit.due("behind a fault", 0, x.count(7));
        Kit.feed(x, Kit.bytes("many x=1"));
        x.ask(0);
        kit.due("behind no bytes", 0, x.count(7));
        kit.due("the next come from the start", 3, Kit.ask(x, "many x=1"));
    }

    private static YesNoRays busy() {
        YesNoRays x = Kit.of(Kit.FIVE);
        x.keep(0, false);
        x.rule(1);
        x.say();
        return x;
    }

    private static YesNoRays asked(String text) {
        YesNoRays x = busy();
        Kit.ask(x, text);
        return x;
    }

    private void answer() {
        due(Kit.of(Kit.FIVE), "many x=1 and not y=1", 2);
        due(Kit.of(Kit.FIVE), "first y=1 and not z=1", 1);
        Map<String, String> before = Seen.of(QuestionEdgeTests::busy);
        Map<String, String> after = Seen.of(() -> asked("many yes=1 and frames=0"));
        for (String what : before.keySet()) {
            kit.due(what + " behind a question", before.get(what), after.get(what));
        }
    }

    private void faultAnswers() {
        YesNoRays x = Kit.of(Kit.FIVE);
        kit.due("fault 1", -1000000001, Kit.ask(x, "many x"));
        kit.due("fault 2", -1000000002, Kit.ask(x, "many x=1000"));
        kit.due("fault 3", -1000000003, Kit.ask(x, "many((((((("));
        Map<String, String> before = Seen.of(QuestionEdgeTests::busy);
        Map<String, String> after = Seen.of(() -> asked("many yes=1000"));
        for (String what : before.keySet()) {
            if (!what.equals("fault")) {
                kit.due(what + " behind a fault", before.get(what), after.get(what));
            }
        }
    }

    private void refused() {
        for (int fed = 0; fed <= 400; fed += 20) {
            YesNoRays x = Kit.of(Kit.FIVE);
            Kit.feed(x, Kit.bytes(" ".repeat(fed)));
            for (int n : new int[] {fed + 1, 201, 400, 401, -1, -200, Integer.MIN_VALUE, Integer.MAX_VALUE}) {
                kit.dueThrow("ask " + n + " of " + fed, "bad", () -> x.ask(n));
            }
            kit.due("tape", fed, x.count(7));
            kit.due("fault", YesNoRays.NONE, x.fault());
            int most = Math.min(200, fed);
            kit.due("ask " + most + " of " + fed, FAULT - 1, x.ask(most));
            kit.due("its place", most, x.fault());
        }
    }
}
