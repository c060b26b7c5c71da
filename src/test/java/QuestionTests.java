import java.util.ArrayList;
import java.util.List;
import java.util.Random;

/** Questions and rows of tokens that are drawn (by fixed seeds), against a reading by states and a stack. */
public final class QuestionTests {
    private static final Kit KIT = new Kit("QuestionTests");
    private static final String[] TOKENS = {"many", "first", "or", "and", "not", "(", ")", "<", "=", ">", "-", "0", "7",
        "999", "1000", "ray", "x", "y", "z", "w", "square", "meets", "frames", "yes", ";", "xy", "+"};
    private static final String[] WORDS = {"ray", "x", "y", "z", "w", "square", "meets", "frames", "yes"};
    private static final String[] TEXT_TOKENS = {"sides", "3", "4", ";", "ray", "0", "1", "2", "9", "10", "-", "x"};

    private static final Random RANDOM = new Random(11);

    public static void main(String[] args) {
        goodQuestions();
        for (int i = 0; i < 20000; i++) {
            List<String> tokens = i % 2 == 0 ? drawnTokens() : bent(new Drawn(3).tokens);
            faulty(tokens);
        }
        for (int i = 0; i < 20000; i++) {
            faultyText(drawnText());
        }
        KIT.end();
    }

    /** A question that is right, with a way to answer it of one ray. */
    private static final class Drawn {
        final List<String> tokens = new ArrayList<>();
        private final Node root;

        Drawn(int deep) {
            tokens.add(RANDOM.nextBoolean() ? "many" : "first");
            root = test(deep, 6);
        }

        interface Node {
            boolean holds(YesNoRays x, int ray, int yes);
        }

        private Node test(int deep, int open) {
            Node node = both(deep, open);
            while (RANDOM.nextInt(3) == 0 && tokens.size() < 30) {
                tokens.add("or");
                Node a = node;
                Node b = both(deep, open);
                node = (x, ray, yes) -> a.holds(x, ray, yes) || b.holds(x, ray, yes);
            }
            return node;
        }

        private Node both(int deep, int open) {
            Node node = fact(deep, open);
            while (RANDOM.nextInt(3) == 0 && tokens.size() < 30) {
                tokens.add("and");
                Node a = node;
                Node b = fact(deep, open);
                node = (x, ray, yes) -> a.holds(x, ray, yes) && b.holds(x, ray, yes);
            }
            return node;
        }

        private Node fact(int deep, int open) {
            int kind = deep > 0 && open > 0 ? RANDOM.nextInt(4) : 3;
            if (kind == 0) {
                tokens.add("not");
                Node a = fact(deep - 1, open - 1);
                return (x, ray, yes) -> !a.holds(x, ray, yes);
            }
            if (kind == 1) {
                tokens.add("(");
                Node a = test(deep - 1, open - 1);
                tokens.add(")");
                return a;
            }
            String left = value();
            String sign = new String[] {"<", "=", ">"}[RANDOM.nextInt(3)];
            tokens.add(sign);
            String right = value();
            return (x, ray, yes) -> {
                int c = Integer.compare(valueOf(left, x, ray, yes), valueOf(right, x, ray, yes));
                return sign.equals("<") ? c < 0 : sign.equals("=") ? c == 0 : c > 0;
            };
        }

        private String value() {
            if (RANDOM.nextInt(3) != 0) {
                String word = WORDS[RANDOM.nextInt(WORDS.length)];
                tokens.add(word);
                return word;
            }
            boolean less = RANDOM.nextInt(4) == 0;
            if (less) {
                tokens.add("-");
            }
            String number = "" + (RANDOM.nextInt(5) == 0 ? RANDOM.nextInt(1000) : RANDOM.nextInt(5));
            tokens.add(number);
            return (less ? "-" : "") + number;
        }

        private static int valueOf(String value, YesNoRays x, int ray, int yes) {
            int sides = x.count(0);
            switch (value) {
                case "ray": return ray;
                case "x": return x.ray(ray, 0);
                case "y": return x.ray(ray, 1);
                case "z": return x.ray(ray, 2);
                case "w": return sides == 4 ? x.ray(ray, 3) : 0;
                case "square": return x.product(ray, ray);
                case "meets": return Integer.bitCount(x.meets(ray));
                case "frames": {
                    int found = 0;
                    for (int f = 0; f < x.count(4); f++) {
                        found += x.frame(f) >> ray & 1;
                    }
                    return found;
                }
                case "yes": return yes >> ray & 1;
                default: return Integer.parseInt(value);
            }
        }

        int due(YesNoRays x) {
            int yes = x.count(8) == 0 ? 0 : x.choice(0);
            int many = 0;
            int first = -1;
            for (int ray = x.count(1) - 1; ray >= 0; ray--) {
                if (x.isIn(ray) && root.holds(x, ray, yes)) {
                    many++;
                    first = ray;
                }
            }
            return tokens.get(0).equals("many") ? many : first;
        }
    }

    private static void goodQuestions() {
        String[] sets = {Kit.CABELLO, "sides 4;",
            "sides 3;ray 1 0 0;ray 0 1 0;ray 0 0 1;ray 1 1 0;ray 1 -1 0;ray 1 1 1;ray 1 1 -2;ray 2 -2 1;"};
        for (int i = 0; i < 6000; i++) {
            YesNoRays x = Kit.of(sets[i % 3]);
            x.rule(RANDOM.nextInt(2));
            x.only(RANDOM.nextInt(2) == 0 ? (1 << x.count(1)) - 1 : RANDOM.nextInt() & (1 << x.count(1)) - 1);
            Drawn drawn = new Drawn(6);
            String text = joined(drawn.tokens, null);
            if (text.length() <= 200) {
                int due = drawn.due(x);
                KIT.due(text + " of set " + i % 3, due, Kit.ask(x, text));
                KIT.due("fault of " + text, -1, x.fault());
            }
        }
    }

    /** Places gets the place of each token and of the end. */
    private static String joined(List<String> tokens, List<Integer> places) {
        StringBuilder text = new StringBuilder();
        String last = ";";
        for (String token : tokens) {
            boolean glued = kind(last) == kind(token) && kind(token) != 2;
            int blanks = RANDOM.nextInt(3) == 0 ? RANDOM.nextInt(3) : 0;
            for (int i = 0; i < Math.max(blanks, glued ? 1 : 0); i++) {
                text.append(RANDOM.nextInt(4) == 0 ? '\n' : ' ');
            }
            if (places != null) {
                places.add(text.length());
            }
            text.append(token);
            last = token;
        }
        if (RANDOM.nextInt(3) == 0) {
            text.append(' ');
        }
        if (places != null) {
            places.add(text.length());
        }
        return text.toString();
    }

    private static int kind(String token) {
        char c = token.charAt(0);
        return Character.isLetter(c) ? 0 : Character.isDigit(c) ? 1 : 2;
    }

    private static List<String> drawnTokens() {
        List<String> tokens = new ArrayList<>();
        tokens.add("many");
        int n = RANDOM.nextInt(12);
        for (int i = 0; i < n; i++) {
            tokens.add(TOKENS[RANDOM.nextInt(TOKENS.length)]);
        }
        return tokens;
    }

    private static List<String> bent(List<String> tokens) {
        List<String> out = new ArrayList<>(tokens);
        for (int i = RANDOM.nextInt(3); i >= 0; i--) {
            int at = RANDOM.nextInt(out.size());
            String opening = RANDOM.nextBoolean() ? "(" : "not";
            String token = RANDOM.nextInt(2) == 0 ? opening : TOKENS[RANDOM.nextInt(TOKENS.length)];
            int kind = RANDOM.nextInt(4);
            if (kind == 0) {
                out.add(at, token);
            } else if (kind == 1) {
                out.set(at, token);
            } else if (kind == 2 && out.size() > 1) {
                out.remove(at);
            } else {
                for (int k = 0; k < 4; k++) {
                    out.add(Math.min(out.size(), at + 1), RANDOM.nextBoolean() ? "not" : "(");
                }
            }
        }
        return out;
    }

    private static void faulty(List<String> tokens) {
        List<Integer> places = new ArrayList<>();
        String text = joined(tokens, places);
        if (text.length() > 200) {
            return;
        }
        int[] due = faultOf(tokens);
        YesNoRays x = new YesNoRays();
        int got = Kit.ask(x, text);
        KIT.due("fault of " + text, due[0], got <= -1000000000 ? -1000000000 - got : 0);
        KIT.due("place in " + text, due[0] == 0 ? -1 : places.get(due[1]), x.fault());
    }

    /** The fault and the token at which it is: by what is awaited, and a row of what is open. */
    private static int[] faultOf(List<String> tokens) {
        StringBuilder open = new StringBuilder();
        String state = "start";
        for (int i = 0; i <= tokens.size(); i++) {
            String t = i < tokens.size() ? tokens.get(i) : "end";
            boolean word = List.of(WORDS).contains(t);
            boolean number = i < tokens.size() && kind(t) == 1;
            boolean fits;
            switch (state) {
                case "start": fits = t.equals("many") || t.equals("first"); break;
                case "fact": fits = word || number || t.equals("-") || t.equals("not") || t.equals("("); break;
                case "left number": case "right number": fits = number; break;
                case "sign": fits = t.equals("<") || t.equals("=") || t.equals(">"); break;
                case "right": fits = word || number || t.equals("-"); break;
                default: fits = t.equals("or") || t.equals("and") || t.equals(")") && open.indexOf("(") >= 0
                    || t.equals("end") && i == tokens.size() && open.indexOf("(") < 0; break;
            }
            if (!fits) {
                return new int[] {1, i};
            }
            if (number && Integer.parseInt(t) > 999) {
                return new int[] {2, i};
            }
            boolean left = state.equals("fact") || state.equals("left number");
            if (t.equals("not") || t.equals("(")) {
                open.append(t.equals("not") ? '!' : '(');
                if (open.length() == 7) {
                    return new int[] {3, i};
                }
            } else if (t.equals("-")) {
                state = left ? "left number" : "right number";
            } else if (word || number) {
                state = left ? "sign" : "behind";
                if (!left) {
                    closeNots(open);
                }
            } else if (t.equals(")")) {
                open.setLength(open.length() - 1);
                closeNots(open);
            } else if (state.equals("sign")) {
                state = "right";
            } else {
                state = "fact";
            }
        }
        return new int[] {0, 0};
    }

    private static void closeNots(StringBuilder open) {
        while (open.length() > 0 && open.charAt(open.length() - 1) == '!') {
            open.setLength(open.length() - 1);
        }
    }

    private static List<String> drawnText() {
        List<String> tokens = new ArrayList<>();
        int sides = 3 + RANDOM.nextInt(2);
        tokens.addAll(List.of("sides", "" + sides, ";"));
        int n = RANDOM.nextInt(12) == 0 ? 22 : RANDOM.nextInt(6);
        for (int i = 0; i < n; i++) {
            tokens.add("ray");
            for (int k = 0; k < sides; k++) {
                if (RANDOM.nextInt(3) == 0) {
                    tokens.add("-");
                }
                tokens.add("" + RANDOM.nextInt(n == 22 ? 10 : 4));
            }
            tokens.add(";");
        }
        for (int i = RANDOM.nextInt(3); i > 0; i--) {
            int at = RANDOM.nextInt(tokens.size());
            String token = TEXT_TOKENS[RANDOM.nextInt(TEXT_TOKENS.length)];
            if (RANDOM.nextBoolean()) {
                tokens.set(at, token);
            } else {
                tokens.add(at, token);
            }
        }
        return RANDOM.nextInt(4) == 0 ? tokens.subList(0, RANDOM.nextInt(tokens.size() + 1)) : tokens;
    }

    private static void faultyText(List<String> tokens) {
        List<Integer> places = new ArrayList<>();
        String text = joined(tokens, places);
        if (text.length() > 400) {
            return;
        }
        List<int[]> rays = new ArrayList<>();
        int[] due = textFaultOf(tokens, rays);
        YesNoRays x = new YesNoRays();
        int got = Kit.rays(x, text);
        KIT.due("answer of " + text, due[0] == 0 ? rays.size() : -10 - due[0], got);
        KIT.due("place in " + text, due[0] == 0 ? -1 : places.get(due[1]), x.fault());
        if (due[0] == 0) {
            for (int r = 0; r < rays.size(); r++) {
                for (int k = 0; k < x.count(0); k++) {
                    KIT.due("number of " + text, rays.get(r)[k], x.ray(r, k));
                }
            }
        }
    }

    private static int[] textFaultOf(List<String> tokens, List<int[]> rays) {
        int sides = 0;
        int[] row = null;
        int have = 0;
        boolean less = false;
        for (int i = 0; i < tokens.size(); i++) {
            String t = tokens.get(i);
            boolean number = kind(t) == 1;
            if (i == 0 || i == 2) {
                if (!t.equals(i == 0 ? "sides" : ";")) {
                    return new int[] {1, i};
                }
            } else if (i == 1) {
                if (!number) {
                    return new int[] {1, i};
                }
                sides = Integer.parseInt(t);
                if (sides != 3 && sides != 4) {
                    return new int[] {2, i};
                }
            } else if (row == null) {
                if (!t.equals("ray")) {
                    return new int[] {1, i};
                }
                if (rays.size() == 20) {
                    return new int[] {4, i};
                }
                row = new int[sides];
                have = 0;
            } else if (have == sides) {
                if (!t.equals(";")) {
                    return new int[] {1, i};
                }
                boolean isWrong = true;
                for (int v : row) {
                    isWrong &= v == 0;
                }
                for (int[] r : rays) {
                    isWrong |= Naive.sameRay(r, row);
                }
                if (isWrong) {
                    return new int[] {3, i};
                }
                rays.add(row);
                row = null;
            } else if (t.equals("-") && !less) {
                less = true;
            } else if (number) {
                if (Integer.parseInt(t) > 9) {
                    return new int[] {2, i};
                }
                row[have] = less ? -Integer.parseInt(t) : Integer.parseInt(t);
                have++;
                less = false;
            } else {
                return new int[] {1, i};
            }
        }
        return tokens.size() < 3 || row != null ? new int[] {1, tokens.size()} : new int[] {0, 0};
    }
}
