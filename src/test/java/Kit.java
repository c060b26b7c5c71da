import java.nio.charset.StandardCharsets;
import java.util.ArrayList;
import java.util.List;
import java.util.NoSuchElementException;

/** What all tests use: sets of rays, feeding texts, and telling what is not as due. */
final class Kit {
    static final String AXES3 = "sides 3;ray 1 0 0;ray 0 1 0;ray 0 0 1;";
    static final String AXES4 = "sides 4;ray 1 0 0 0;ray 0 1 0 0;ray 0 0 1 0;ray 0 0 0 1;";
    /** Two frames that have ray 2 in common. */
    static final String FIVE = "sides 3;ray 1 0 0;ray 0 1 0;ray 0 0 1;ray 1 1 0;ray 1 -1 0;";
    /** The frames 2, 3, 4 and 5, 6, 7; 4 and 7 are upright, so rays 0 and 1 can't both be yes by rule 0. */
    static final String BUG = "sides 3;ray 1 1 -1;ray 1 1 1;ray 0 1 1;ray 0 1 -1;ray 1 0 0;ray 1 0 1;ray 1 0 -1;"
            + "ray 0 1 0;";
    /** Each ray is upright to the one ahead of it and the one behind it, and to no other. */
    static final String PATH = "sides 3;ray 3 -1 3;ray 1 -3 -2;ray 0 2 -3;ray 2 -3 -2;ray 1 2 -2;ray 2 -2 -1;"
            + "ray 1 1 0;ray 2 -2 1;ray 2 1 -2;ray 1 -2 0;ray 2 1 0;ray 1 -2 -1;ray 3 1 1;ray 1 -3 0;ray 3 1 3;"
            + "ray 2 3 -3;ray 3 -2 0;ray 2 3 0;ray 3 -2 -3;ray 3 3 1;";
    /** 18 rays that are refused, in nine frames, each ray in two of them. */
    static final String CABELLO = "sides 4;ray 0 0 0 1;ray 0 0 1 0;ray 1 1 0 0;ray 1 -1 0 0;ray 0 1 0 0;ray 1 0 1 0;"
            + "ray 1 0 -1 0;ray 1 -1 1 -1;ray 1 -1 -1 1;ray 0 0 1 1;ray 1 1 1 1;ray 0 1 0 -1;ray 1 0 0 1;"
            + "ray 1 0 0 -1;ray 0 1 -1 0;ray 1 1 -1 1;ray 1 1 1 -1;ray -1 1 1 1;";
    /** 20 rays that are refused, in eleven frames, none of which can be spared. */
    static final String ELEVEN = "sides 4;ray 0 0 0 1;ray 0 0 1 -1;ray 0 0 1 0;ray 0 0 1 1;ray 0 1 0 -1;ray 0 1 0 0;"
            + "ray 0 1 0 1;ray 0 1 1 0;ray 1 -1 -1 -1;ray 1 -1 -1 1;ray 1 -1 0 0;ray 1 -1 1 -1;ray 1 -1 1 1;"
            + "ray 1 0 -1 0;ray 1 0 0 -1;ray 1 0 0 1;ray 1 0 1 0;ray 1 1 -1 -1;ray 1 1 -1 1;ray 1 1 0 0;";
    /** 20 rays that have a parity of nine frames and one of eleven. */
    static final String NINE_AND_ELEVEN = "sides 4;ray 0 0 0 1;ray 0 0 1 -1;ray 0 0 1 0;ray 0 0 1 1;ray 0 1 -1 0;"
            + "ray 0 1 0 -1;ray 0 1 0 0;ray 0 1 0 1;ray 0 1 1 0;ray 1 -1 -1 -1;ray 1 -1 -1 1;ray 1 -1 1 -1;"
            + "ray 1 -1 1 1;ray 1 0 0 -1;ray 1 0 0 0;ray 1 0 0 1;ray 1 0 1 0;ray 1 1 -1 -1;ray 1 1 -1 1;ray 1 1 0 0;";
    /** 20 rays that have choices, none of which has ray 0 as yes. */
    static final String NEVER_YES = "sides 4;ray 1 -1 -1 1;ray 1 0 0 -1;ray 0 0 1 -1;ray 1 1 1 -1;ray 1 0 -1 0;"
            + "ray 0 1 -1 0;ray 1 -1 0 0;ray 1 0 0 0;ray 0 1 0 0;ray 1 1 0 0;ray 0 0 1 0;ray 1 0 1 0;ray 0 1 1 0;"
            + "ray 1 1 -1 1;ray 0 0 0 1;ray 1 0 0 1;ray 0 1 0 1;ray 1 -1 1 1;ray 0 0 1 1;ray 1 1 1 1;";
    /** All 20 rays that there can be. */
    static final int ALL = (1 << 20) - 1;

    interface Call {
        Object run();
    }

    /** A sentence of the document, and the section in which it stands. */
    record Sentence(String section, String words) {
    }

    final List<Sentence> sentences = new ArrayList<>();
    private final String name;
    private final boolean onlyLists;
    private String section = "";
    private int checks;
    private int wrong;

    Kit(String name) {
        this(name, false);
    }

    private Kit(String name, boolean onlyLists) {
        this.name = name;
        this.onlyLists = onlyLists;
    }

    /** One that only notes which sentences are tested. */
    static Kit lister() {
        return new Kit("lister", true);
    }

    /** 20 rays no two of which are upright. */
    static String apart() {
        StringBuilder text = new StringBuilder("sides 3;");
        for (int i = 0; i < 20; i++) {
            text.append("ray 9 ").append(i % 5).append(' ').append(i / 5).append(';');
        }
        return text.toString();
    }

    static void feed(YesNoRays x, byte[] bytes) {
        for (int from = 0; from < bytes.length; from += 20) {
            int[] five = new int[5];
            for (int i = 0; i < 20; i++) {
                int b = from + i < bytes.length ? bytes[from + i] & 255 : 32;
                five[i / 4] = five[i / 4] << 8 | b;
            }
            if (x.feed(five[0], five[1], five[2], five[3], five[4]) == YesNoRays.NONE) {
                throw new IllegalStateException("the tape is full");
            }
        }
    }

    static byte[] bytes(String text) {
        return text.getBytes(StandardCharsets.ISO_8859_1);
    }

    static int rays(YesNoRays x, String text) {
        feed(x, bytes(text));
        return x.rays(text.length());
    }

    static int ask(YesNoRays x, String text) {
        feed(x, bytes(text));
        return x.ask(text.length());
    }

    static YesNoRays of(String text) {
        YesNoRays x = new YesNoRays();
        if (rays(x, text) < 0) {
            throw new IllegalStateException(text);
        }
        return x;
    }

    static String saidText(YesNoRays x) {
        StringBuilder text = new StringBuilder();
        for (int i = 0; i < 500; i++) {
            int b = x.said(i);
            if (b == YesNoRays.NONE) {
                break;
            }
            text.append((char) b);
        }
        return text.toString();
    }

    /** The test of one sentence of the document. */
    void edge(String where, String words, Runnable test) {
        sentences.add(new Sentence(where, words));
        if (onlyLists) {
            return;
        }
        section = where + ": ";
        int before = checks;
        test.run();
        due("a test of: " + words, true, checks > before);
        section = "";
    }

    void due(String what, Object want, Object got) {
        checks++;
        if (!want.equals(got)) {
            wrong++;
            if (wrong <= 50) {
                System.out.println(name + ": " + section + what + " answered " + got + ", due is " + want);
            }
        }
    }

    /** "none": it has to throw NoSuchElementException; "bad": IllegalArgumentException. */
    void dueThrow(String what, String want, Call call) {
        due(what, want, thrown(call));
    }

    static String thrown(Call call) {
        try {
            return "nothing thrown: " + call.run();
        } catch (RuntimeException e) {
            return e.getClass() == NoSuchElementException.class ? "none"
                    : e.getClass() == IllegalArgumentException.class ? "bad" : e.toString();
        }
    }

    void end() {
        System.out.println(name + ": " + (checks - wrong) + " of " + checks + " as due");
        if (wrong != 0 || checks == 0) {
            System.exit(1);
        }
    }
}
