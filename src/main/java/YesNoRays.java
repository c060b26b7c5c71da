import java.util.NoSuchElementException;

/**
 * Rays of few whole numbers, the frames that they make, and the yes-no choices that fit them or don't.
 *
 * A set of RAYS is an int everywhere: bit k stands for RAY k. All rows are made once, with the object, and used again
 * by every call; what is found out of the RAYS that are IN is kept until they, or the RULE, change.
 */
public final class YesNoRays {
    public static final int NONE = -1;
    public static final int HIDDEN = -1000000;

    private static final int MOST_RAYS = 20;
    private static final int MOST_SIDES = 4;
    private static final int LARGEST = 9;
    // In 3 sides two UPRIGHT rays have one third, so a ray is in at most 9 frames of 20 rays; in 4 sides the frames of
    // one ray are such triples of 19 others, at most 57, so that there are at most 20 * 57 / 4 = 285.
    private static final int MOST_FRAMES = 300;
    private static final int PARITY_FRAMES = 40;
    private static final int MOST_ACTS = 20;
    private static final int TAPE_BYTES = 400;
    private static final int FEED_BYTES = 20;
    private static final int QUESTION_BYTES = 200;
    private static final int SAID_BYTES = 400;
    private static final int MOST_OPEN = 6;
    // No recursion here takes more steps than there are rays or frames of a parity; this only shows that it ends.
    private static final int DEEPEST = 45;

    private static final int CANT_STAND = 1;
    private static final int WRONG_NUMBER = 2;
    private static final int WRONG_RAY = 3;
    private static final int TOO_DEEP = 3;
    private static final int TOO_MANY = 4;

    private final Tape tape;
    private final Told told;
    private final Told draft;
    private final TextReader reader;
    private final Web web;
    private final Chooser chooser;
    private final Thinner thinner;
    private final Spread spread;
    private final Parity oddFrames;
    private final Turner turner;
    private final Question question;
    private final Acts acts;
    private final byte[] saidBytes;
    private int saidLength;
    private int inside;
    private int ruleNow;
    private int faultPlace;
    private boolean stale;

    public YesNoRays() {
        tape = new Tape();
        told = new Told();
        draft = new Told();
        reader = new TextReader(tape, draft);
        web = new Web(told);
        chooser = new Chooser(web);
        thinner = new Thinner(web, chooser);
        spread = new Spread(web);
        oddFrames = new Parity(web);
        turner = new Turner(told, web);
        question = new Question(tape, told, web);
        acts = new Acts();
        saidBytes = new byte[SAID_BYTES];
        faultPlace = NONE;
        stale = true;
    }

    public int feed(int a, int b, int c, int d, int e) {
        if (tape.size + FEED_BYTES > TAPE_BYTES) {
            return NONE;
        }
        tape.put(a);
        tape.put(b);
        tape.put(c);
        tape.put(d);
        tape.put(e);
        return tape.size;
    }

    public int rays(int n) throws IllegalArgumentException {
        if (n < 0 || n > tape.size) {
            throw new IllegalArgumentException("the tape has not so many bytes");
        }
        int fault = reader.read(n);
        if (fault != 0) {
            faultPlace = tape.start;
            return -10 - fault;
        }
        faultPlace = NONE;
        told.copyFrom(draft);
        acts.forget();
        inside = told.all();
        ruleNow = 0;
        stale = true;
        return told.size;
    }

    public int fault() {
        return faultPlace;
    }

    public int count(int what) throws NoSuchElementException {
        if (what < 0 || what > 9) {
            throw new NoSuchElementException("no such count");
        }
        refresh();
        switch (what) {
            case 0: return told.sides;
            case 1: return told.size;
            case 2: return Integer.bitCount(inside);
            case 3: return web.couples;
            case 4: return web.frameCount;
            case 5: return ruleNow;
            case 6: return acts.kept;
            case 7: return tape.size;
            case 8: return chooser.allWays();
            default: return thinner.isAllRefused() ? 1 : 0;
        }
    }

    public int ray(int ray, int k) throws NoSuchElementException {
        needTold(ray);
        if (k < 0 || k >= told.sides) {
            throw new NoSuchElementException("no such number");
        }
        return told.numberOf(ray, k);
    }

    public boolean isIn(int ray) throws NoSuchElementException {
        needTold(ray);
        return has(inside, ray);
    }

    public int product(int ray, int other) throws NoSuchElementException {
        needTold(ray);
        needTold(other);
        return told.dot(ray, other);
    }

    public int meets(int ray) throws NoSuchElementException {
        needTold(ray);
        refresh();
        return at(web.upright, ray);
    }

    public int frame(int frame) throws NoSuchElementException {
        refresh();
        if (frame < 0 || frame >= web.frameCount) {
            throw new NoSuchElementException("no such frame");
        }
        return at(web.frames, frame);
    }

    public int choice(int k) throws NoSuchElementException {
        refresh();
        if (k < 0 || k >= chooser.allWays()) {
            throw new NoSuchElementException("no such choice");
        }
        return chooser.choiceAt(k);
    }

    public int having(int ray, int yes) throws NoSuchElementException {
        needInside(ray);
        if (yes != 0 && yes != 1) {
            throw new NoSuchElementException("neither yes nor no");
        }
        refresh();
        int bit = 1 << ray;
        return yes == 1 ? chooser.waysWith(bit, 0) : chooser.waysWith(0, bit);
    }

    public int forced(int yes, int no, int what) throws NoSuchElementException, IllegalArgumentException {
        if (what < 0 || what > 2) {
            throw new NoSuchElementException("no such question of what is forced");
        }
        needInsideSet(yes);
        needInsideSet(no);
        refresh();
        boolean clash = !chooser.force(yes, no, 0);
        if (what == 2) {
            return clash ? 1 : 0;
        }
        if (clash) {
            return HIDDEN;
        }
        return what == 0 ? chooser.yes : chooser.no;
    }

    public int tree(int what) throws NoSuchElementException {
        if (what < 0 || what > 2) {
            throw new NoSuchElementException("no such count of the tree");
        }
        refresh();
        chooser.growTree();
        if (what == 0) {
            return chooser.leafs;
        }
        return what == 1 ? chooser.deepest : chooser.clashes;
    }

    public int spared(boolean back) {
        refresh();
        return thinner.leaveOut(back);
    }

    public int fewest() {
        refresh();
        return thinner.fewestRays();
    }

    public boolean isRefused(int set) throws IllegalArgumentException {
        needInsideSet(set);
        refresh();
        return thinner.refuses(set);
    }

    public int most(int what) throws NoSuchElementException {
        needZeroOrOne(what);
        refresh();
        int score = spread.rightScore(chooser.barred);
        return what == 0 ? Spread.weightOf(score) : Spread.setOf(score);
    }

    public int parity() {
        refresh();
        return oddFrames.leastSize();
    }

    public int proof(int i) throws NoSuchElementException {
        refresh();
        if (i < 0 || i >= oddFrames.leastSize()) {
            throw new NoSuchElementException("no such frame of a parity");
        }
        return at(oddFrames.chosen, i);
    }

    public int even() {
        refresh();
        return oddFrames.evenDimension();
    }

    public int symmetries(int what) throws NoSuchElementException {
        needZeroOrOne(what);
        refresh();
        turner.turnAll();
        return what == 0 ? turner.turns : turner.kindCount();
    }

    public int alike(int ray) throws NoSuchElementException {
        needInside(ray);
        refresh();
        turner.turnAll();
        return at(turner.images, ray);
    }

    public int third(int ray, int other, int k) throws NoSuchElementException {
        needInside(ray);
        needInside(other);
        if (told.sides != 3 || k < 0 || k > 2 || told.dot(ray, other) != 0) {
            throw new NoSuchElementException("no such number of a third");
        }
        return told.thirdNumber(ray, other, k);
    }

    public int lacking(int what) throws NoSuchElementException {
        if (what < 0 || what > 2) {
            throw new NoSuchElementException("no such question of what lacks");
        }
        refresh();
        if (what == 0) {
            return web.lackingCount(false);
        }
        return what == 1 ? web.firstLacking() : web.lackingCount(true);
    }

    public int parts() {
        refresh();
        return web.partCount();
    }

    public int far(int ray, int other) throws NoSuchElementException {
        needInside(ray);
        needInside(other);
        refresh();
        return web.steps(ray, other);
    }

    public int apart(int what) throws NoSuchElementException {
        needZeroOrOne(what);
        refresh();
        int score = spread.apartScore();
        return what == 0 ? Spread.weightOf(score) : Spread.setOf(score);
    }

    public int hues() {
        refresh();
        return spread.fewestHues();
    }

    public int say() {
        saidLength = 0;
        sayText("sides ");
        sayNumber(told.sides);
        sayText(";");
        for (int ray = 0; ray < told.size; ray++) {
            if (has(inside, ray)) {
                sayRay(ray);
            }
        }
        return saidLength;
    }

    public int said(int i) {
        return i >= 0 && i < saidLength && i < saidBytes.length ? saidBytes[i] : NONE;
    }

    public boolean keep(int ray, boolean in) throws NoSuchElementException {
        needTold(ray);
        boolean was = has(inside, ray);
        int bit = 1 << ray;
        act(in ? inside | bit : inside & ~bit, ruleNow);
        return was;
    }

    public int only(int set) throws IllegalArgumentException {
        if ((set & ~told.all()) != 0) {
            throw new IllegalArgumentException("a ray that there isn't");
        }
        act(set, ruleNow);
        return Integer.bitCount(set);
    }

    public int rule(int v) throws IllegalArgumentException {
        if (v != 0 && v != 1) {
            throw new IllegalArgumentException("no such rule");
        }
        int was = ruleNow;
        act(inside, v);
        return was;
    }

    public int undo() {
        if (acts.kept == 0) {
            return NONE;
        }
        acts.takeLatest();
        become(acts.latestInside, acts.latestRule);
        return acts.kept;
    }

    public int ask(int n) throws IllegalArgumentException {
        if (n < 0 || n > QUESTION_BYTES || n > tape.size) {
            throw new IllegalArgumentException("no question of so many bytes");
        }
        refresh();
        int fault = question.read(n, 0);
        if (fault != 0) {
            faultPlace = tape.start;
            return -1000000000 - fault;
        }
        if (question.asksYes) {
            question.read(n, chooser.leastChoice());
        }
        faultPlace = NONE;
        return question.answer();
    }

    private void needTold(int ray) {
        if (ray < 0 || ray >= told.size) {
            throw new NoSuchElementException("no such ray");
        }
    }

    private void needInside(int ray) {
        if (ray < 0 || ray >= told.size || !has(inside, ray)) {
            throw new NoSuchElementException("no such ray that is in");
        }
    }

    private void needInsideSet(int set) {
        if ((set & ~inside) != 0) {
            throw new IllegalArgumentException("a ray that isn't in");
        }
    }

    private static void needZeroOrOne(int what) {
        if (what != 0 && what != 1) {
            throw new NoSuchElementException("no such question");
        }
    }

    private void act(int set, int v) {
        acts.note(inside, ruleNow);
        become(set, v);
    }

    private void become(int set, int v) {
        stale |= set != inside || v != ruleNow;
        inside = set;
        ruleNow = v;
    }

    private void refresh() {
        if (!stale) {
            return;
        }
        stale = false;
        web.weave(inside);
        chooser.take(inside, ruleNow);
        thinner.forget(ruleNow);
        spread.forget();
        oddFrames.forget();
        turner.forget();
    }

    private void sayRay(int ray) {
        sayText("ray");
        for (int k = 0; k < told.sides; k++) {
            sayText(" ");
            sayNumber(told.numberOf(ray, k));
        }
        sayText(";");
    }

    private void sayNumber(int number) {
        if (number < 0) {
            sayByte('-');
        }
        sayByte('0' + Math.abs(number));
    }

    private void sayText(String text) {
        for (int i = 0; i < text.length(); i++) {
            sayByte(text.charAt(i));
        }
    }

    private void sayByte(int sign) {
        if (saidLength < saidBytes.length) {
            saidBytes[saidLength] = (byte) sign;
            saidLength++;
        }
    }

    private static boolean has(int set, int ray) {
        return (set >> ray & 1) != 0;
    }

    private static int at(int[] row, int i) {
        return i >= 0 && i < row.length ? row[i] : 0;
    }

    /** The least ray of a set; 32 if it is empty. */
    private static int least(int set) {
        return Integer.bitCount((set & -set) - 1);
    }

    /** All rays to which the links lead from some, step by step, without leaving a set. */
    private static int reach(int[] links, int start, int within) {
        int reached = start;
        int edge = start;
        for (int i = 0; i < MOST_RAYS && edge != 0; i++) {
            int more = at(links, least(edge)) & within & ~reached;
            edge = edge & edge - 1 | more;
            reached |= more;
        }
        return reached;
    }

    private static int commonPart(int a, int b) {
        int large = Math.abs(a);
        int small = Math.abs(b);
        for (int i = 0; i < 100 && small != 0; i++) {
            int left = large % small;
            large = small;
            small = left;
        }
        return large;
    }

    /** The bytes fed, and the TOKEN at which the reading of the first of them stands. */
    private static final class Tape {
        private static final int END = 0;
        private static final int WORD = 1;
        private static final int NUMBER = 2;
        private static final int SIGN = 3;
        private static final int BLANK = 4;
        // Above every number that is told, so that a row of many figures need not be counted out.
        private static final int TOO_LARGE = 1000000;

        private final byte[] bytes = new byte[TAPE_BYTES];
        private int size;
        private int length;
        private int kind;
        private int start;
        private int behind;
        private int number;

        void put(int four) {
            for (int shift = 24; shift >= 0; shift -= 8) {
                if (size < bytes.length) {
                    bytes[size] = (byte) (four >>> shift);
                    size++;
                }
            }
        }

        /** The tape is empty from here on: its bytes stay until others are fed, and no reading lasts so long. */
        void open(int n) {
            size = 0;
            length = Math.min(n, bytes.length);
            behind = 0;
            next();
        }

        void next() {
            int first = behind;
            for (int i = behind; i < length && kindOf(byteAt(i)) == BLANK; i++) {
                first = i + 1;
            }
            start = first;
            kind = first < length ? kindOf(byteAt(first)) : END;
            behind = kind == SIGN ? first + 1 : first;
            number = 0;
            boolean isRow = kind == WORD || kind == NUMBER;
            for (int i = first; isRow && i < length && kindOf(byteAt(i)) == kind; i++) {
                behind = i + 1;
                if (kind == NUMBER) {
                    number = Math.min(TOO_LARGE, number * 10 + byteAt(i) - '0');
                }
            }
        }

        private static int kindOf(int b) {
            if (b >= 'a' && b <= 'z') {
                return WORD;
            }
            if (b >= '0' && b <= '9') {
                return NUMBER;
            }
            return b == 32 || b == 10 ? BLANK : SIGN;
        }

        boolean isEnd() {
            return kind == END;
        }

        boolean isNumber() {
            return kind == NUMBER;
        }

        boolean isSign(char sign) {
            return kind == SIGN && byteAt(start) == sign;
        }

        boolean isWord(String word) {
            if (kind != WORD || behind - start != word.length()) {
                return false;
            }
            for (int i = 0; i < word.length(); i++) {
                if (byteAt(start + i) != word.charAt(i)) {
                    return false;
                }
            }
            return true;
        }

        private int byteAt(int i) {
            return i >= 0 && i < bytes.length ? bytes[i] & 255 : 0;
        }
    }

    /** The RAYS as they were told, IN or OUT. */
    private static final class Told {
        private int sides = 3;
        private int size;
        private final int[] numbers = new int[MOST_RAYS * MOST_SIDES];
        private final int[] common = new int[MOST_RAYS];
        private final int[] codes = new int[MOST_RAYS];
        private final int[] upright = new int[MOST_RAYS];

        void begin(int sideCount) {
            sides = sideCount;
            size = 0;
        }

        void copyFrom(Told other) {
            sides = other.sides;
            size = other.size;
            System.arraycopy(other.numbers, 0, numbers, 0, numbers.length);
            System.arraycopy(other.common, 0, common, 0, common.length);
            System.arraycopy(other.codes, 0, codes, 0, codes.length);
            System.arraycopy(other.upright, 0, upright, 0, upright.length);
        }

        int all() {
            return (1 << size) - 1;
        }

        int numberOf(int ray, int k) {
            return k >= 0 && k < MOST_SIDES ? at(numbers, ray * MOST_SIDES + k) : 0;
        }

        /** A number of the ray that is being told: the one behind the last that was added. */
        void put(int k, int number) {
            int i = size * MOST_SIDES + k;
            if (k >= 0 && k < MOST_SIDES && i >= 0 && i < numbers.length) {
                numbers[i] = number;
            }
        }

        /** Whether the ray that is being told can be one: it isn't 0 all over, nor another one times something. */
        boolean add() {
            int ray = size;
            if (ray < 0 || ray >= MOST_RAYS) {
                return false;
            }
            int part = 0;
            for (int k = 0; k < MOST_SIDES; k++) {
                part = commonPart(part, numberOf(ray, k));
            }
            if (part == 0) {
                return false;
            }
            int code = 0;
            for (int k = 0; k < MOST_SIDES; k++) {
                code += numberOf(ray, k) / part * power(k);
            }
            code = Math.abs(code);
            if (find(code) != NONE) {
                return false;
            }
            common[ray] = part;
            codes[ray] = code;
            linkUp(ray);
            size++;
            return true;
        }

        private void linkUp(int ray) {
            int links = 0;
            for (int other = 0; other < ray && other < upright.length; other++) {
                if (dot(ray, other) == 0) {
                    links |= 1 << other;
                    upright[other] |= 1 << ray;
                }
            }
            if (ray >= 0 && ray < upright.length) {
                upright[ray] = links;
            }
        }

        /** Numbers of -9 to 9 are figures of base 19: each row has a code of its own, that turned all over its less. */
        static int power(int k) {
            switch (k) {
                case 0: return 6859;
                case 1: return 361;
                case 2: return 19;
                default: return 1;
            }
        }

        int find(int code) {
            for (int ray = 0; ray < size && ray < codes.length; ray++) {
                if (codes[ray] == code) {
                    return ray;
                }
            }
            return NONE;
        }

        int dot(int ray, int other) {
            int sum = 0;
            for (int k = 0; k < MOST_SIDES; k++) {
                sum += numberOf(ray, k) * numberOf(other, k);
            }
            return sum;
        }

        int thirdNumber(int ray, int other, int k) {
            int x = crossed(ray, other, 1, 2);
            int y = crossed(ray, other, 2, 0);
            int z = crossed(ray, other, 0, 1);
            int part = commonPart(commonPart(x, y), z);
            if (part == 0) {
                return 0;
            }
            int first = x != 0 ? x : y != 0 ? y : z;
            int number = (k == 0 ? x : k == 1 ? y : z) / part;
            return first < 0 ? -number : number;
        }

        private int crossed(int ray, int other, int k, int l) {
            return numberOf(ray, k) * numberOf(other, l) - numberOf(ray, l) * numberOf(other, k);
        }

        /** Which ray the third of two is; NONE, if it isn't told. */
        int thirdRay(int ray, int other) {
            int code = 0;
            for (int k = 0; k < 3; k++) {
                int number = thirdNumber(ray, other, k);
                if (Math.abs(number) > LARGEST) {
                    return NONE;
                }
                code += number * power(k);
            }
            return find(Math.abs(code));
        }
    }

    /** Reads a TEXT into a draft, so that a fault leaves what was told before as it is. */
    private static final class TextReader {
        private final Tape tape;
        private final Told draft;

        TextReader(Tape tape, Told draft) {
            this.tape = tape;
            this.draft = draft;
        }

        /** The fault, 0 if there is none; it is at the token at which the tape stands then. */
        int read(int n) {
            tape.open(n);
            int fault = readSides();
            for (int ray = 0; ray <= MOST_RAYS && fault == 0 && !tape.isEnd(); ray++) {
                fault = readRay(ray);
            }
            return fault;
        }

        private int readSides() {
            if (!tape.isWord("sides")) {
                return CANT_STAND;
            }
            tape.next();
            if (!tape.isNumber()) {
                return CANT_STAND;
            }
            if (tape.number != 3 && tape.number != 4) {
                return WRONG_NUMBER;
            }
            draft.begin(tape.number);
            tape.next();
            if (!tape.isSign(';')) {
                return CANT_STAND;
            }
            tape.next();
            return 0;
        }

        private int readRay(int ray) {
            if (!tape.isWord("ray")) {
                return CANT_STAND;
            }
            if (ray >= MOST_RAYS) {
                return TOO_MANY;
            }
            tape.next();
            draft.put(MOST_SIDES - 1, 0);
            for (int k = 0; k < draft.sides; k++) {
                int fault = readSided(k);
                if (fault != 0) {
                    return fault;
                }
            }
            if (!tape.isSign(';')) {
                return CANT_STAND;
            }
            if (!draft.add()) {
                return WRONG_RAY;
            }
            tape.next();
            return 0;
        }

        private int readSided(int k) {
            boolean less = tape.isSign('-');
            if (less) {
                tape.next();
            }
            if (!tape.isNumber()) {
                return CANT_STAND;
            }
            if (tape.number > LARGEST) {
                return WRONG_NUMBER;
            }
            draft.put(k, less ? -tape.number : tape.number);
            tape.next();
            return 0;
        }
    }

    /** How the RAYS that are IN stand to one another. */
    private static final class Web {
        private final Told told;
        private int in;
        private int couples;
        private int frameCount;
        private final int[] upright = new int[MOST_RAYS];
        private final int[] mates = new int[MOST_RAYS];
        private final int[] framesOf = new int[MOST_RAYS];
        private final int[] frames = new int[MOST_FRAMES];

        Web(Told told) {
            this.told = told;
        }

        void weave(int set) {
            in = set;
            int ends = 0;
            for (int ray = 0; ray < MOST_RAYS; ray++) {
                upright[ray] = has(in, ray) ? told.upright[ray] & in : 0;
                mates[ray] = 0;
                framesOf[ray] = 0;
                ends += Integer.bitCount(upright[ray]);
            }
            couples = ends / 2;
            frameCount = 0;
            for (int a = 0; a < MOST_RAYS; a++) {
                for (int b = a + 1; b < MOST_RAYS; b++) {
                    if (has(upright[a], b)) {
                        findThirds(1 << a | 1 << b, upright[a] & upright[b], b + 1);
                    }
                }
            }
        }

        private void findThirds(int two, int beside, int from) {
            for (int c = from; c < MOST_RAYS && beside >> c != 0; c++) {
                if (!has(beside, c)) {
                    continue;
                }
                if (told.sides == 3) {
                    addFrame(two | 1 << c);
                } else {
                    findFourths(two | 1 << c, beside & upright[c], c + 1);
                }
            }
        }

        private void findFourths(int three, int beside, int from) {
            for (int d = from; d < MOST_RAYS && beside >> d != 0; d++) {
                if (has(beside, d)) {
                    addFrame(three | 1 << d);
                }
            }
        }

        private void addFrame(int frame) {
            if (frameCount >= frames.length) {
                return;
            }
            frames[frameCount] = frame;
            frameCount++;
            for (int ray = 0; ray < MOST_RAYS; ray++) {
                if (has(frame, ray)) {
                    mates[ray] |= frame & ~(1 << ray);
                    framesOf[ray]++;
                }
            }
        }

        /** How many couples lack a frame; with a third that is told only, if that is asked. */
        int lackingCount(boolean toldThird) {
            int found = 0;
            for (int a = 0; a < MOST_RAYS; a++) {
                int lone = upright[a] & ~mates[a];
                for (int b = a + 1; b < MOST_RAYS; b++) {
                    if (has(lone, b) && (!toldThird || hasThird(a, b))) {
                        found++;
                    }
                }
            }
            return found;
        }

        // A third that is IN makes a frame of the couple, so one that is told is OUT where a couple lacks.
        private boolean hasThird(int a, int b) {
            return told.sides == 3 && told.thirdRay(a, b) != NONE;
        }

        int firstLacking() {
            for (int a = 0; a < MOST_RAYS; a++) {
                int lone = (upright[a] & ~mates[a]) >> a >> 1;
                if (lone != 0) {
                    return 20 * a + a + 1 + least(lone);
                }
            }
            return NONE;
        }

        int partCount() {
            int rest = in;
            int found = 0;
            for (int i = 0; i < MOST_RAYS && rest != 0; i++) {
                rest &= ~reach(upright, rest & -rest, in);
                found++;
            }
            return found;
        }

        int steps(int from, int to) {
            int reached = 1 << from;
            int edge = reached;
            for (int step = 0; step < MOST_RAYS && edge != 0; step++) {
                if (has(edge, to)) {
                    return step;
                }
                int next = 0;
                for (int ray = 0; ray < MOST_RAYS; ray++) {
                    if (has(edge, ray)) {
                        next |= upright[ray];
                    }
                }
                edge = next & ~reached;
                reached |= edge;
            }
            return NONE;
        }
    }

    /** The CHOICES of one set of rays, by its own frames alone. */
    private static final class Chooser {
        private final Web web;
        private final int[] frames = new int[MOST_FRAMES];
        private int frameCount;
        private final int[] barred = new int[MOST_RAYS];
        private int among;
        private int yes;
        private int no;
        private int ways;
        private int leastOne;
        private int leafs;
        private int clashes;
        private int deepest;

        Chooser(Web web) {
            this.web = web;
        }

        void take(int set, int v) {
            among = set;
            ways = NONE;
            leastOne = NONE;
            leafs = 0;
            frameCount = 0;
            for (int i = 0; i < web.frameCount && i < MOST_FRAMES; i++) {
                if ((web.frames[i] & ~set) == 0 && frameCount < MOST_FRAMES) {
                    frames[frameCount] = web.frames[i];
                    frameCount++;
                }
            }
            for (int ray = 0; ray < MOST_RAYS; ray++) {
                barred[ray] = v == 0 ? web.upright[ray] & set : ownMates(ray);
            }
        }

        private int ownMates(int ray) {
            if (among == web.in) {
                return at(web.mates, ray);
            }
            int found = 0;
            for (int i = 0; i < frameCount && i < MOST_FRAMES; i++) {
                if (has(frames[i], ray)) {
                    found |= frames[i];
                }
            }
            return found & ~(1 << ray);
        }

        /**
         * What is FORCED by some yes, some no, into the fields yes and no; false: a CLASH.
         * What the rays of spread bar is among those that are no already.
         */
        boolean force(int yesSet, int noSet, int spread) {
            yes = yesSet;
            no = noSet;
            int fresh = yesSet & ~spread;
            // Each round but the last makes one more ray yes.
            for (int round = 0; round < MOST_RAYS + 2; round++) {
                for (int i = 0; i < MOST_RAYS && fresh != 0; i++) {
                    no |= at(barred, least(fresh));
                    fresh &= fresh - 1;
                }
                if ((yes & no) != 0) {
                    return false;
                }
                fresh = lastOnes();
                if (fresh == NONE) {
                    return false;
                }
                if (fresh == 0) {
                    return true;
                }
                yes |= fresh;
            }
            return false;
        }

        /** The rays that are the last of a frame without a yes; NONE, if a frame has no ray left. */
        private int lastOnes() {
            int found = 0;
            for (int i = 0; i < frameCount && i < MOST_FRAMES; i++) {
                int frame = frames[i];
                if ((frame & yes) == 0) {
                    int left = frame & ~no;
                    if (left == 0) {
                        return NONE;
                    }
                    if ((left & left - 1) == 0) {
                        found |= left;
                    }
                }
            }
            return found;
        }

        /** Whether there is a choice; only frames are tried: where each has its yes, all other rays can be no. */
        private boolean fitsFrom(int yesSet, int noSet, int depth) {
            int open = narrowest(yesSet, noSet);
            if (open == 0) {
                return true;
            }
            int tried = noSet;
            for (int ray = 0; ray < MOST_RAYS && depth < DEEPEST; ray++) {
                if (has(open, ray)) {
                    int bit = 1 << ray;
                    if (force(yesSet | bit, tried, yesSet) && fitsFrom(yes, no, depth + 1)) {
                        return true;
                    }
                    tried |= bit;
                }
            }
            return false;
        }

        /** What is left of the frame without a yes that has the fewest rays left; 0, if all have one. */
        private int narrowest(int yesSet, int noSet) {
            int found = 0;
            int size = MOST_RAYS;
            for (int i = 0; i < frameCount && i < MOST_FRAMES; i++) {
                if ((frames[i] & yesSet) == 0) {
                    int left = frames[i] & ~noSet;
                    int rays = Integer.bitCount(left);
                    if (rays < size) {
                        found = left;
                        size = rays;
                    }
                }
            }
            return found;
        }

        int allWays() {
            if (ways == NONE) {
                ways = waysWith(0, 0);
            }
            return ways;
        }

        int waysWith(int yesSet, int noSet) {
            if (!force(yesSet, noSet, 0)) {
                return 0;
            }
            return waysOf(among & ~(yes | no), yes, no, 0);
        }

        // Rays that don't come to one another by what they bar are chosen by themselves: their ways multiply.
        private int waysOf(int open, int yesSet, int noSet, int depth) {
            int product = 1;
            int rest = open;
            for (int i = 0; i < MOST_RAYS && rest != 0 && product != 0; i++) {
                int first = rest & -rest;
                int part = reach(barred, first, rest);
                rest &= ~part;
                product *= part == first ? 2 : waysOfPart(part, yesSet, noSet, depth);
            }
            return product;
        }

        private int waysOfPart(int part, int yesSet, int noSet, int depth) {
            if (depth >= DEEPEST) {
                return 0;
            }
            int bit = busiest(part);
            int sum = 0;
            if (force(yesSet | bit, noSet, yesSet)) {
                sum += waysOf(part & ~(yes | no), yes, no, depth + 1);
            }
            if (force(yesSet, noSet | bit, yesSet)) {
                sum += waysOf(part & ~(yes | no), yes, no, depth + 1);
            }
            return sum;
        }

        private int busiest(int part) {
            int found = 0;
            int most = -1;
            for (int ray = 0; ray < MOST_RAYS; ray++) {
                if (has(part, ray)) {
                    int near = Integer.bitCount(barred[ray] & part);
                    if (near > most) {
                        most = near;
                        found = 1 << ray;
                    }
                }
            }
            return found;
        }

        /** Choice k, where there are more than k. */
        int choiceAt(int k) {
            int left = k;
            int yesSet = 0;
            int noSet = 0;
            for (int ray = MOST_RAYS - 1; ray >= 0; ray--) {
                if (has(among & ~(yesSet | noSet), ray)) {
                    int without = waysWith(yesSet, noSet | 1 << ray);
                    if (left < without) {
                        force(yesSet, noSet | 1 << ray, yesSet);
                    } else {
                        left -= without;
                        force(yesSet | 1 << ray, noSet, yesSet);
                    }
                    yesSet = yes;
                    noSet = no;
                }
            }
            return yesSet;
        }

        /** Choice 0; no ray, if there is none. */
        int leastChoice() {
            if (leastOne == NONE) {
                leastOne = allWays() == 0 ? 0 : choiceAt(0);
            }
            return leastOne;
        }

        void growTree() {
            if (leafs > 0) {
                return;
            }
            clashes = 0;
            deepest = 0;
            growFrom(0, 0, 0, 0);
        }

        /** Whether a choice was found. */
        private boolean growFrom(int yesSet, int noSet, int spread, int depth) {
            deepest = Math.max(deepest, depth);
            if (!force(yesSet, noSet, spread)) {
                leafs++;
                clashes++;
                return false;
            }
            int yesThen = yes;
            int noThen = no;
            int open = among & ~(yesThen | noThen);
            if (open == 0 || depth >= DEEPEST) {
                leafs++;
                return true;
            }
            int bit = open & -open;
            return growFrom(yesThen | bit, noThen, yesThen, depth + 1)
                    || growFrom(yesThen, noThen | bit, yesThen, depth + 1);
        }
    }

    /** Sets of rays that are REFUSED, and what of them can be left out. */
    private static final class Thinner {
        private final Web web;
        private final Chooser all;
        private final Chooser some;
        private int ruleNow;
        private int allRefused;
        private int fewestSet;
        private boolean fewestKnown;

        Thinner(Web web, Chooser all) {
            this.web = web;
            this.all = all;
            some = new Chooser(web);
        }

        void forget(int v) {
            ruleNow = v;
            allRefused = NONE;
            fewestKnown = false;
        }

        boolean isAllRefused() {
            if (allRefused == NONE) {
                allRefused = all.fitsFrom(0, 0, 0) ? 0 : 1;
            }
            return allRefused == 1;
        }

        boolean refuses(int set) {
            some.take(set, ruleNow);
            return !some.fitsFrom(0, 0, 0);
        }

        int leaveOut(boolean back) {
            if (!isAllRefused()) {
                return 0;
            }
            int left = web.in;
            for (int i = 0; i < MOST_RAYS; i++) {
                int ray = back ? MOST_RAYS - 1 - i : i;
                int without = left & ~(1 << ray);
                if (without != left && refuses(without)) {
                    left = without;
                }
            }
            return left;
        }

        int fewestRays() {
            if (!fewestKnown) {
                fewestKnown = true;
                fewestSet = 0;
                if (isAllRefused()) {
                    fewestSet = web.in;
                    thin(web.in, web.in, 0);
                }
            }
            return fewestSet;
        }

        // What a refused set is part of is refused, too: so a ray that can't be left out of a set can't be left out of
        // any part of it, and rays left out in rising order come by each refused set once.
        private void thin(int set, int may, int depth) {
            noteFewest(set);
            int can = 0;
            for (int ray = 0; ray < MOST_RAYS; ray++) {
                if (has(may, ray) && refuses(set & ~(1 << ray))) {
                    can |= 1 << ray;
                }
            }
            if (Integer.bitCount(set) - Integer.bitCount(can) > Integer.bitCount(fewestSet)) {
                return;
            }
            for (int ray = 0; ray < MOST_RAYS && depth < DEEPEST; ray++) {
                if (has(can, ray)) {
                    can &= ~(1 << ray);
                    thin(set & ~(1 << ray), can, depth + 1);
                }
            }
        }

        private void noteFewest(int set) {
            int rays = Integer.bitCount(set);
            int best = Integer.bitCount(fewestSet);
            if (rays < best || rays == best && set < fewestSet) {
                fewestSet = set;
            }
        }
    }

    /** Sets of rays none of which bar one another: the worthiest one, and how few make all rays. */
    private static final class Spread {
        private final Web web;
        private final int[] worth = new int[MOST_RAYS];
        private final int[] barred = new int[MOST_RAYS];
        private final int[] hueSets = new int[MOST_RAYS];
        private int right;
        private int apartOnes;
        private int hueCount;

        Spread(Web web) {
            this.web = web;
        }

        void forget() {
            right = NONE;
            apartOnes = NONE;
            hueCount = NONE;
        }

        int rightScore(int[] bars) {
            if (right == NONE) {
                for (int ray = 0; ray < MOST_RAYS; ray++) {
                    setWorth(ray, web.framesOf[ray], at(bars, ray));
                }
                right = heaviest(worthyOnes(), 0);
            }
            return right;
        }

        int apartScore() {
            if (apartOnes == NONE) {
                for (int ray = 0; ray < MOST_RAYS; ray++) {
                    setWorth(ray, has(web.in, ray) ? 1 : 0, web.upright[ray]);
                }
                apartOnes = heaviest(worthyOnes(), 0);
            }
            return apartOnes;
        }

        // One more of weight outdoes all bits of a set together, so the best score has the greatest weight and of such
        // sets the least number.
        private void setWorth(int ray, int weight, int bars) {
            if (ray >= 0 && ray < MOST_RAYS) {
                worth[ray] = (weight << MOST_RAYS) - (1 << ray);
                barred[ray] = bars;
            }
        }

        static int weightOf(int score) {
            return score + (1 << MOST_RAYS) - 1 >> MOST_RAYS;
        }

        static int setOf(int score) {
            return (weightOf(score) << MOST_RAYS) - score;
        }

        private int worthyOnes() {
            int found = 0;
            for (int ray = 0; ray < MOST_RAYS; ray++) {
                if (worth[ray] > 0) {
                    found |= 1 << ray;
                }
            }
            return found;
        }

        private int heaviest(int set, int depth) {
            if (set == 0 || depth >= DEEPEST) {
                return 0;
            }
            int pivot = 0;
            int most = -1;
            for (int ray = 0; ray < MOST_RAYS; ray++) {
                if (has(set, ray)) {
                    int near = barred[ray] & set;
                    int nearCount = Integer.bitCount(near);
                    // Nothing is lost by taking a ray that bars none, or one that is worth less.
                    if (nearCount == 0 || nearCount == 1 && worth[ray] > at(worth, least(near))) {
                        return worth[ray] + heaviest(set & ~near & ~(1 << ray), depth + 1);
                    }
                    if (nearCount > most) {
                        most = nearCount;
                        pivot = ray;
                    }
                }
            }
            int rest = set & ~(1 << pivot);
            int with = at(worth, pivot) + heaviest(rest & ~at(barred, pivot), depth + 1);
            int without = heaviest(rest, depth + 1);
            return Math.max(with, without);
        }

        int fewestHues() {
            if (hueCount == NONE) {
                // Each two rays of a frame need hues of their own.
                int low = web.frameCount > 0 ? web.told.sides : web.couples > 0 ? 2 : web.in != 0 ? 1 : 0;
                hueCount = MOST_RAYS;
                for (int hues = low; hues < hueCount; hues++) {
                    if (canPaint(hues)) {
                        hueCount = hues;
                    }
                }
            }
            return hueCount;
        }

        private boolean canPaint(int hues) {
            for (int hue = 0; hue < MOST_RAYS; hue++) {
                hueSets[hue] = 0;
            }
            return paint(web.in, 0, hues, 0);
        }

        private boolean paint(int rest, int used, int hues, int depth) {
            if (rest == 0) {
                return true;
            }
            int ray = hardest(rest, used);
            int bit = 1 << ray;
            // Hues that no ray has yet are all alike: one of them is tried.
            for (int hue = 0; hue <= used && hue < hues && hue < MOST_RAYS && depth < DEEPEST; hue++) {
                if ((hueSets[hue] & at(web.upright, ray)) == 0) {
                    hueSets[hue] |= bit;
                    if (paint(rest & ~bit, Math.max(used, hue + 1), hues, depth + 1)) {
                        return true;
                    }
                    hueSets[hue] &= ~bit;
                }
            }
            return false;
        }

        /** The ray that has the fewest hues left, of several the one that is upright to the most. */
        private int hardest(int rest, int used) {
            int found = 0;
            int most = -1;
            for (int ray = 0; ray < MOST_RAYS; ray++) {
                if (has(rest, ray)) {
                    int hard = Integer.bitCount(web.upright[ray] & rest);
                    for (int hue = 0; hue < used && hue < MOST_RAYS; hue++) {
                        if ((hueSets[hue] & web.upright[ray]) != 0) {
                            hard += MOST_RAYS;
                        }
                    }
                    if (hard > most) {
                        most = hard;
                        found = ray;
                    }
                }
            }
            return found;
        }
    }

    /**
     * Sets of frames that have each ray evenly often. A frame is a row of bits here: its rays from bit 1 on, and bit 0,
     * which tells whether a set of frames is odd when their rows are put together.
     */
    private static final class Parity {
        private static final int BITS = MOST_RAYS + 1;

        private final Web web;
        private final int[] rows = new int[PARITY_FRAMES];
        private final int[] bases = new int[(PARITY_FRAMES + 1) * BITS];
        private final int[] chosen = new int[PARITY_FRAMES];
        private int rowCount;
        private boolean basesKnown;
        private boolean leastKnown;
        private int leastCount;

        Parity(Web web) {
            this.web = web;
        }

        void forget() {
            basesKnown = false;
            leastKnown = false;
        }

        int evenDimension() {
            findBases();
            int rank = 0;
            for (int bit = 1; bit < BITS; bit++) {
                if (bases[bit] != 0) {
                    rank++;
                }
            }
            return rowCount - rank;
        }

        int leastSize() {
            if (!leastKnown) {
                leastKnown = true;
                leastCount = NONE;
                findBases();
                findLeast();
            }
            return leastCount;
        }

        /** Basis i, at i * BITS, is one of all rows from i on: its row at bit b has no higher bit than b. */
        private void findBases() {
            if (basesKnown) {
                return;
            }
            basesKnown = true;
            rowCount = Math.min(web.frameCount, PARITY_FRAMES);
            for (int bit = 0; bit < BITS; bit++) {
                int top = rowCount * BITS + bit;
                if (top < bases.length) {
                    bases[top] = 0;
                }
            }
            for (int i = rowCount - 1; i >= 0; i--) {
                rows[i] = at(web.frames, i) << 1 | 1;
                System.arraycopy(bases, (i + 1) * BITS, bases, i * BITS, BITS);
                widen(i, rows[i]);
            }
        }

        private void widen(int basis, int row) {
            int left = row;
            for (int bit = BITS - 1; bit >= 0 && left != 0; bit--) {
                int i = basis * BITS + bit;
                if (has(left, bit) && i >= 0 && i < bases.length) {
                    if (bases[i] == 0) {
                        bases[i] = left;
                        left = 0;
                    } else {
                        left ^= bases[i];
                    }
                }
            }
        }

        private boolean spans(int basis, int row) {
            int left = row;
            for (int bit = BITS - 1; bit >= 0 && left != 0; bit--) {
                if (has(left, bit)) {
                    int base = at(bases, basis * BITS + bit);
                    if (base == 0) {
                        return false;
                    }
                    left ^= base;
                }
            }
            return left == 0;
        }

        private void findLeast() {
            if (!spans(0, 1)) {
                return;
            }
            for (int goal = 1; goal <= rowCount && leastCount == NONE; goal += 2) {
                if (pick(0, 0, 0, goal)) {
                    leastCount = goal;
                }
            }
        }

        /** Whether the goal's number of frames can be had, some being chosen, the others from one on. */
        private boolean pick(int from, int have, int sum, int goal) {
            int need = goal - have;
            if (need == 0) {
                return sum == 1;
            }
            if (Integer.bitCount(sum >> 1) > need * web.told.sides || have >= DEEPEST) {
                return false;
            }
            for (int i = from; i + need <= rowCount && i < PARITY_FRAMES && have < PARITY_FRAMES; i++) {
                if (!spans(i, sum ^ 1)) {
                    return false;
                }
                chosen[have] = i;
                if (pick(i + 1, have + 1, sum ^ rows[i], goal)) {
                    return true;
                }
            }
            return false;
        }
    }

    /** The SYMMETRIES: where sides go, which are turned. */
    private static final class Turner {
        private static final int SLOTS = 64;

        private final Told told;
        private final Web web;
        private final int[] images = new int[MOST_RAYS];
        private final int[] goesTo = new int[MOST_RAYS];
        private final int[] weights = new int[MOST_SIDES];
        private final int[] reduced = new int[MOST_RAYS * MOST_SIDES];
        private final int[] slotCodes = new int[SLOTS];
        private final int[] slotBits = new int[SLOTS];
        private boolean known;
        private int turns;

        Turner(Told told, Web web) {
            this.told = told;
            this.web = web;
        }

        void forget() {
            known = false;
        }

        void turnAll() {
            if (known) {
                return;
            }
            known = true;
            turns = 0;
            fillSlots();
            // Two bits a side tell where it goes; the fourth one stays, where there are three.
            for (int places = 0; places < 256; places++) {
                int taken = 1 << (places & 3) | 1 << (places >> 2 & 3) | 1 << (places >> 4 & 3) | 1 << (places >> 6);
                if (taken == 15 && (told.sides == 4 || places >> 6 == 3)) {
                    turnSides(places);
                }
            }
        }

        private void fillSlots() {
            for (int slot = 0; slot < SLOTS; slot++) {
                slotCodes[slot] = 0;
            }
            for (int ray = 0; ray < MOST_RAYS; ray++) {
                images[ray] = 0;
                goesTo[ray] = 0;
                if (has(web.in, ray)) {
                    reduce(ray);
                    int slot = slotOf(told.codes[ray]);
                    if (slot >= 0 && slot < SLOTS) {
                        slotCodes[slot] = told.codes[ray];
                        slotBits[slot] = 1 << ray;
                    }
                }
            }
        }

        private void reduce(int ray) {
            int part = Math.max(1, at(told.common, ray));
            for (int k = 0; k < MOST_SIDES; k++) {
                int i = ray * MOST_SIDES + k;
                if (i >= 0 && i < reduced.length) {
                    reduced[i] = told.numberOf(ray, k) / part;
                }
            }
        }

        /** Where a code stands, or can stand: no ray has code 0, and far from all slots are taken. */
        private int slotOf(int code) {
            int slot = code & SLOTS - 1;
            for (int i = 0; i < SLOTS && slotCodes[slot] != 0 && slotCodes[slot] != code; i++) {
                slot = slot + 1 & SLOTS - 1;
            }
            return slot;
        }

        // A ray turned all over is the same ray: so the first side is never turned, and each way counts twice.
        private void turnSides(int places) {
            for (int turned = 0; turned < 1 << told.sides; turned += 2) {
                for (int k = 0; k < MOST_SIDES; k++) {
                    int weight = Told.power(places >> 2 * k & 3);
                    weights[k] = has(turned, k) ? -weight : weight;
                }
                if (fitsAll()) {
                    turns += 2;
                    for (int ray = 0; ray < MOST_RAYS; ray++) {
                        images[ray] |= goesTo[ray];
                    }
                }
            }
        }

        /** Whether each ray that is in comes to one that is in: goesTo has which. */
        private boolean fitsAll() {
            for (int ray = 0; ray < told.size && ray < MOST_RAYS; ray++) {
                if (has(web.in, ray)) {
                    int image = imageOf(ray * MOST_SIDES);
                    if (image == 0) {
                        return false;
                    }
                    goesTo[ray] = image;
                }
            }
            return true;
        }

        private int imageOf(int i) {
            if (i < 0 || i + 3 >= reduced.length) {
                return 0;
            }
            int code = Math.abs(reduced[i] * weights[0] + reduced[i + 1] * weights[1]
                    + reduced[i + 2] * weights[2] + reduced[i + 3] * weights[3]);
            int slot = slotOf(code);
            return slot >= 0 && slot < SLOTS && slotCodes[slot] == code ? slotBits[slot] : 0;
        }

        int kindCount() {
            int found = 0;
            for (int ray = 0; ray < MOST_RAYS; ray++) {
                if (has(web.in, ray) && least(images[ray]) == ray) {
                    found++;
                }
            }
            return found;
        }
    }

    /** A QUESTION: each part of it is answered as it is read, with the set of rays that are IN for which it holds. */
    private static final class Question {
        // A VALUE is a number itself, or one of these, which are above all numbers.
        private static final int RAY = 10000;
        private static final int X = 10001;
        private static final int Y = 10002;
        private static final int Z = 10003;
        private static final int W = 10004;
        private static final int SQUARE = 10005;
        private static final int MEETS = 10006;
        private static final int FRAMES = 10007;
        private static final int YES = 10008;
        private static final int GREATEST = 999;

        private final Tape tape;
        private final Told told;
        private final Web web;
        private int fault;
        private boolean many;
        private boolean asksYes;
        private int yesSet;
        private int holds;

        Question(Tape tape, Told told, Web web) {
            this.tape = tape;
            this.told = told;
            this.web = web;
        }

        /**
         * The fault, 0 if there is none; it is at the token at which the tape stands then. A question that asks for
         * 'yes' is read a second time, with the choice, which is dear to find where nobody asks for it.
         */
        int read(int n, int yes) {
            tape.open(n);
            fault = 0;
            holds = 0;
            asksYes = false;
            yesSet = yes;
            many = tape.isWord("many");
            if (!many && !tape.isWord("first")) {
                return CANT_STAND;
            }
            tape.next();
            holds = readTest(0);
            if (fault == 0 && !tape.isEnd()) {
                fail(CANT_STAND);
            }
            return fault;
        }

        int answer() {
            if (many) {
                return Integer.bitCount(holds);
            }
            return holds == 0 ? NONE : least(holds);
        }

        private int fail(int what) {
            fault = what;
            return 0;
        }

        private int readTest(int open) {
            int set = readBoth(open);
            for (int i = 0; i < QUESTION_BYTES && fault == 0 && tape.isWord("or"); i++) {
                tape.next();
                set |= readBoth(open);
            }
            return set;
        }

        private int readBoth(int open) {
            int set = readFact(open);
            for (int i = 0; i < QUESTION_BYTES && fault == 0 && tape.isWord("and"); i++) {
                tape.next();
                set &= readFact(open);
            }
            return set;
        }

        private int readFact(int open) {
            boolean not = tape.isWord("not");
            if (!not && !tape.isSign('(')) {
                return readComparison();
            }
            if (open >= MOST_OPEN) {
                return fail(TOO_DEEP);
            }
            tape.next();
            if (not) {
                return web.in & ~readFact(open + 1);
            }
            int set = readTest(open + 1);
            if (fault == 0 && !tape.isSign(')')) {
                return fail(CANT_STAND);
            }
            if (fault == 0) {
                tape.next();
            }
            return set;
        }

        private int readComparison() {
            int left = readValue();
            if (fault != 0) {
                return 0;
            }
            boolean less = tape.isSign('<');
            boolean more = tape.isSign('>');
            if (!less && !more && !tape.isSign('=')) {
                return fail(CANT_STAND);
            }
            tape.next();
            int right = readValue();
            int set = 0;
            for (int ray = 0; ray < MOST_RAYS && fault == 0; ray++) {
                if (has(web.in, ray)) {
                    int a = valueOf(left, ray);
                    int b = valueOf(right, ray);
                    if (less ? a < b : more ? a > b : a == b) {
                        set |= 1 << ray;
                    }
                }
            }
            return set;
        }

        private int readValue() {
            int value = wordValue();
            if (value == NONE) {
                boolean less = tape.isSign('-');
                if (less) {
                    tape.next();
                }
                if (!tape.isNumber()) {
                    return fail(CANT_STAND);
                }
                if (tape.number > GREATEST) {
                    return fail(WRONG_NUMBER);
                }
                value = less ? -tape.number : tape.number;
            }
            tape.next();
            return value;
        }

        private int wordValue() {
            if (tape.isWord("ray")) {
                return RAY;
            } else if (tape.isWord("x")) {
                return X;
            } else if (tape.isWord("y")) {
                return Y;
            } else if (tape.isWord("z")) {
                return Z;
            } else if (tape.isWord("w")) {
                return W;
            } else if (tape.isWord("square")) {
                return SQUARE;
            } else if (tape.isWord("meets")) {
                return MEETS;
            } else if (tape.isWord("frames")) {
                return FRAMES;
            } else if (tape.isWord("yes")) {
                asksYes = true;
                return YES;
            }
            return NONE;
        }

        private int valueOf(int value, int ray) {
            switch (value) {
                case RAY: return ray;
                case X: return told.numberOf(ray, 0);
                case Y: return told.numberOf(ray, 1);
                case Z: return told.numberOf(ray, 2);
                case W: return told.numberOf(ray, 3);
                case SQUARE: return told.dot(ray, ray);
                case MEETS: return Integer.bitCount(at(web.upright, ray));
                case FRAMES: return at(web.framesOf, ray);
                case YES: return has(yesSet, ray) ? 1 : 0;
                default: return value;
            }
        }
    }

    /** What was IN, and which RULE there was, ahead of each of the latest acts: a ring of rows. */
    private static final class Acts {
        private final int[] insides = new int[MOST_ACTS];
        private final int[] rules = new int[MOST_ACTS];
        private int oldest;
        private int kept;
        private int latestInside;
        private int latestRule;

        void forget() {
            kept = 0;
        }

        void note(int inside, int v) {
            if (kept >= MOST_ACTS) {
                oldest = (oldest + 1) % MOST_ACTS;
                kept--;
            }
            int slot = (oldest + kept) % MOST_ACTS;
            if (slot >= 0 && slot < MOST_ACTS) {
                insides[slot] = inside;
                rules[slot] = v;
                kept++;
            }
        }

        void takeLatest() {
            if (kept > 0) {
                kept--;
                int slot = (oldest + kept) % MOST_ACTS;
                latestInside = at(insides, slot);
                latestRule = at(rules, slot);
            }
        }
    }
}
