import java.nio.charset.StandardCharsets;

/** What the tests share: answers that are due, and texts fed to a tape. */
final class Due {
    private static int wrong = 0;
    private static int asked = 0;

    private Due() {
    }

    static void is(String call, long got, long want) {
        asked++;
        if (got != want) {
            wrong++;
            if (wrong <= 50) {
                System.out.println(call + " answered " + got + ", due is " + want);
            }
        }
    }

    static void yes(String what, boolean holds) {
        is(what, holds ? 1 : 0, 1);
    }

    static int wrong() {
        return wrong;
    }

    /** Twelve bytes at a time, the rest cut off again. */
    static void feed(WhoSigns x, String text) {
        byte[] bytes = text.getBytes(StandardCharsets.ISO_8859_1);
        int before = x.count(9);
        for (int at = 0; at < bytes.length; at += 12) {
            x.feed(number(bytes, at), number(bytes, at + 4), number(bytes, at + 8));
        }
        x.trim(before + bytes.length);
    }

    static int number(byte[] bytes, int at) {
        int number = 0;
        for (int k = at; k < at + 4; k++) {
            number = number << 8 | (k < bytes.length ? bytes[k] & 255 : 32);
        }
        return number;
    }

    static int text(WhoSigns x, String text) {
        feed(x, text);
        return x.text();
    }

    /** People of ranks 0, 1, .. and steps of 10 minutes that want nothing. */
    static WhoSigns office(int people, int steps) {
        WhoSigns x = new WhoSigns();
        for (int p = 0; p < people; p++) {
            x.person(0, p, 0);
        }
        for (int s = 0; s < steps; s++) {
            x.step(-1, 0, 10);
        }
        return x;
    }

    static void end(String name) {
        System.out.println(name + ": " + asked + " answers, " + wrong + " wrong");
        System.exit(wrong == 0 ? 0 : 1);
    }
}
