import java.nio.charset.StandardCharsets;
import java.util.NoSuchElementException;

/** Counts answers that are not as due, and puts texts on a tape. */
final class Check {
    interface Asked {
        int answer();
    }

    static final int THROWS = Integer.MIN_VALUE;
    private static int wrong;
    private static int asked;
    private static String about = "";

    private Check() {
    }

    static void same(String what, long got, long due) {
        asked++;
        if (got != due) {
            wrong++;
            if (wrong <= 40) {
                System.out.println("  " + about + what + ": answered " + got + ", due is " + due);
            }
        }
    }

    /** What the next answers are about: it stands ahead of each that is not as due. */
    static void about(String what) {
        about = what;
    }

    static int asked() {
        return asked;
    }

    static void same(String what, boolean got, boolean due) {
        same(what, got ? 1 : 0, due ? 1 : 0);
    }

    /** The answer, or THROWS for a NoSuchElementException; any other exception goes on. */
    static int of(Asked call) {
        try {
            return call.answer();
        } catch (NoSuchElementException e) {
            return THROWS;
        }
    }

    static void refuses(String what, Asked call) {
        same(what + " throws", of(call), THROWS);
    }

    static void finish(String name) {
        System.out.println("  " + name + ": " + asked + " answers, " + wrong + " not as due");
        if (wrong != 0 || asked == 0) {
            System.exit(1);
        }
    }

    static void feed(ThirdHands x, byte[] bytes) {
        x.end(0);
        for (int at = 0; at < bytes.length; at += 20) {
            int[] five = new int[5];
            for (int k = 0; k < 20; k++) {
                int one = at + k < bytes.length ? bytes[at + k] & 255 : 0;
                five[k / 4] = five[k / 4] << 8 | one;
            }
            x.feed(five[0], five[1], five[2], five[3], five[4]);
        }
        x.end(bytes.length);
    }

    static void feed(ThirdHands x, String text) {
        feed(x, text.getBytes(StandardCharsets.ISO_8859_1));
    }

    static int village(ThirdHands x, String text) {
        feed(x, text);
        return x.village();
    }

    static ThirdHands of(String text) {
        ThirdHands x = new ThirdHands();
        int lines = village(x, text);
        if (lines < 0) {
            throw new IllegalStateException("a test's own village is faulty at " + (-1 - lines) + ": " + text);
        }
        return x;
    }

    static int plan(ThirdHands x, String text) {
        feed(x, text);
        return x.plan();
    }

    static int ring(ThirdHands x, int... people) {
        feed(x, bytes(people));
        return x.ring();
    }

    static int lasts(ThirdHands x, int... people) {
        feed(x, bytes(people));
        return x.lasts();
    }

    private static byte[] bytes(int... people) {
        byte[] bytes = new byte[people.length];
        for (int i = 0; i < people.length; i++) {
            bytes[i] = (byte) people[i];
        }
        return bytes;
    }
}
