import java.nio.charset.StandardCharsets;

/** What the tests share: answers that are due, texts fed to the tape, fractions. */
final class Checks {
    private final String name;
    private int wrong;
    private int asked;

    Checks(String name) {
        this.name = name;
    }

    void due(String what, long got, long want) {
        asked++;
        if (got != want) {
            wrong++;
            if (wrong <= 40) {
                System.out.println(name + ": " + what + " answered " + got + ", due is " + want);
            }
        }
    }

    void due(String what, boolean got, boolean want) {
        due(what, got ? 1 : 0, want ? 1 : 0);
    }

    /** The answer of a call that has a status, and that status. */
    void due(TellFirst x, String what, long got, long want, int status) {
        due(what, got, want);
        due("status behind " + what, x.status(), status);
    }

    void due(TellFirst x, String what, boolean got, boolean want, int status) {
        due(x, what, got ? 1 : 0, want ? 1 : 0, status);
    }

    void fraction(TellFirst x, String what, long top, long bottom) {
        long divisor = Math.max(1, divisor(top, bottom));
        due("top behind " + what, x.top(), top / divisor);
        due("bottom behind " + what, x.bottom(), bottom / divisor);
    }

    private static long divisor(long a, long b) {
        return b == 0 ? a : divisor(b, a % b);
    }

    void end() {
        if (wrong != 0) {
            System.out.println(name + ": " + wrong + " of " + asked + " answers are not as due");
            System.exit(1);
        }
        System.out.println(name + ": " + asked + " answers are as due");
    }

    static void feed(TellFirst x, byte[] bytes) {
        for (int i = 0; i < bytes.length; i += 20) {
            int[] five = new int[5];
            for (int k = 0; k < 20; k++) {
                int b = i + k < bytes.length ? bytes[i + k] & 255 : 32;
                five[k / 4] = five[k / 4] << 8 | b;
            }
            x.feed(five[0], five[1], five[2], five[3], five[4]);
        }
    }

    static byte[] bytes(String text) {
        return text.getBytes(StandardCharsets.ISO_8859_1);
    }

    static int net(TellFirst x, String text) {
        feed(x, bytes(text));
        return x.net(text.length());
    }

    static TellFirst made(String text) {
        TellFirst x = new TellFirst();
        int people = net(x, text);
        if (x.status() != 0) {
            throw new IllegalStateException("no net: " + text + " (" + people + ", fault " + x.fault(0)
                + " at " + x.fault(1) + ")");
        }
        return x;
    }

    static void fill(TellFirst x, int tray, int sort, long... numbers) {
        x.tray(tray, sort, numbers.length);
        for (int i = 0; i < numbers.length; i++) {
            x.write(tray, i, numbers[i]);
        }
    }
}
