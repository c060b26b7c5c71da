import java.nio.charset.StandardCharsets;
import java.util.NoSuchElementException;

/** What all tests use: feeding texts, and telling what is not as due. */
final class Kit {
    static final String CABELLO = "sides 4;ray 0 0 0 1;ray 0 0 1 0;ray 1 1 0 0;ray 1 -1 0 0;ray 0 1 0 0;ray 1 0 1 0;"
            + "ray 1 0 -1 0;ray 1 -1 1 -1;ray 1 -1 -1 1;ray 0 0 1 1;ray 1 1 1 1;ray 0 1 0 -1;ray 1 0 0 1;"
            + "ray 1 0 0 -1;ray 0 1 -1 0;ray 1 1 -1 1;ray 1 1 1 -1;ray -1 1 1 1;";

    interface Call {
        Object run();
    }

    private final String name;
    private int checks;
    private int wrong;

    Kit(String name) {
        this.name = name;
    }

    static void feed(YesNoRays x, byte[] bytes) {
        for (int from = 0; from < bytes.length; from += 20) {
            int[] five = new int[5];
            for (int i = 0; i < 20; i++) {
                int b = from + i < bytes.length ? bytes[from + i] & 255 : 32;
                five[i / 4] = five[i / 4] << 8 | b;
            }
            if (x.feed(five[0], five[1], five[2], five[3], five[4]) == YesNoRays.NONE) {
                throw new IllegalStateException("the tape is full");
            }
        }
    }

    static byte[] bytes(String text) {
        return text.getBytes(StandardCharsets.ISO_8859_1);
    }

    static int rays(YesNoRays x, String text) {
        feed(x, bytes(text));
        return x.rays(text.length());
    }

    static int ask(YesNoRays x, String text) {
        feed(x, bytes(text));
        return x.ask(text.length());
    }

    static YesNoRays of(String text) {
        YesNoRays x = new YesNoRays();
        if (rays(x, text) < 0) {
            throw new IllegalStateException(text);
        }
        return x;
    }

    static String saidText(YesNoRays x) {
        StringBuilder text = new StringBuilder();
        for (int i = 0; x.said(i) != YesNoRays.NONE; i++) {
            text.append((char) x.said(i));
        }
        return text.toString();
    }

    void due(String what, Object want, Object got) {
        checks++;
        if (!want.equals(got)) {
            wrong++;
            if (wrong <= 50) {
                System.out.println(name + ": " + what + " answered " + got + ", due is " + want);
            }
        }
    }

    /** "none": it has to throw NoSuchElementException; "bad": IllegalArgumentException. */
    void dueThrow(String what, String want, Call call) {
        String got;
        try {
            got = "nothing thrown: " + call.run();
        } catch (RuntimeException e) {
            got = e.getClass() == NoSuchElementException.class ? "none"
                    : e.getClass() == IllegalArgumentException.class ? "bad" : e.toString();
        }
        due(what, want, got);
    }

    void end() {
        System.out.println(name + ": " + (checks - wrong) + " of " + checks + " as due");
        if (wrong != 0 || checks == 0) {
            System.exit(1);
        }
    }
}
