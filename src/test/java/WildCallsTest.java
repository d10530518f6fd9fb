import java.util.NoSuchElementException;
import java.util.Random;

/** Calls with any arguments in any order: nothing but what the document names is ever thrown. */
public final class WildCallsTest {
    private static final String[] WORDS = {"who", "of", "asks", "sort", "makes", "with", "wants", "by", "gives", "law",
        "any", "first", "once", "towns", "give", "use", "wait", "a", "b", "c", "s", "t", "0", "1", "2", "3", "5", "9",
        "47", "99", "100", ";", ";", ";", "\n", ".", "abcdefg", "0000"};

    private WildCallsTest() {
    }

    public static void main(String[] args) {
        for (int round = 0; round < 3000; round++) {
            Random r = new Random(round);
            String calls = "";
            ThirdHands x = new ThirdHands();
            try {
                for (int k = 0; k < 120; k++) {
                    int call = r.nextInt(46);
                    calls = calls + " " + call;
                    go(x, call, r);
                }
            } catch (RuntimeException e) {
                Check.same("round " + round + ": " + e + " behind" + calls, 1, 0);
            }
            same(round);
        }
        Check.finish("wild calls");
    }

    private static int number(Random r) {
        int kind = r.nextInt(12);
        if (kind == 0) {
            return r.nextInt();
        }
        if (kind == 1) {
            return r.nextBoolean() ? Integer.MAX_VALUE : Integer.MIN_VALUE;
        }
        return kind == 2 ? r.nextInt(60) - 5 : r.nextInt(9) - 1;
    }

    private static String text(Random r) {
        int kind = r.nextInt(4);
        if (kind == 0) {
            StringBuilder s = new StringBuilder();
            for (int k = r.nextInt(200); k > 0; k--) {
                s.append(WORDS[r.nextInt(WORDS.length)]).append(r.nextInt(4) > 0 ? " " : "");
            }
            return s.substring(0, Math.min(s.length(), 1040));
        }
        StringBuilder s = new StringBuilder(World.draw(r, 16, 8).text);
        for (int k = kind == 1 ? r.nextInt(3) : 0; k > 0; k--) {
            s.setCharAt(r.nextInt(s.length()), (char) r.nextInt(256));
        }
        return s.toString();
    }

    private static String planText(Random r) {
        StringBuilder s = new StringBuilder();
        for (int k = r.nextInt(20); k > 0; k--) {
            int kind = r.nextInt(3);
            s.append(kind == 0 ? "use " + r.nextInt(3) + ";" : kind == 1 ? "wait " + r.nextInt(9) + ";"
                : "give " + r.nextInt(3) + " " + World.name(r.nextInt(4)) + ";");
        }
        return s.toString();
    }

    private static void go(ThirdHands x, int call, Random r) {
        int a = number(r);
        int b = number(r);
        int c = number(r);
        try {
            if (call < 16) {
                told(x, call, a, b, c, r);
            } else if (call < 32) {
                asked(x, call, a, b, c);
            } else {
                rest(x, call, a, b, c, r);
            }
        } catch (NoSuchElementException e) {
            boolean may = call == 5 || call == 6 || call == 8 || call == 9;
            Check.same("call " + call + " may throw", may, true);
        }
    }

    private static void told(ThirdHands x, int call, int a, int b, int c, Random r) {
        switch (call) {
            case 0: x.feed(a, b, c, a, b); break;
            case 1: x.end(a); break;
            case 2: case 3: case 4: Check.village(x, text(r)); break;
            case 5: x.unit(a, b); break;
            case 6: x.want(a, b); break;
            case 7: x.giving(a, b, c); break;
            case 8: x.act(a, b); break;
            case 9: x.gain(a); break;
            case 10: case 11: Check.plan(x, planText(r)); break;
            case 12: x.village(); break;
            case 13: x.plan(); break;
            case 14: x.drawn(a, b); break;
            default: x.fault(); break;
        }
    }

    private static void asked(ThirdHands x, int call, int a, int b, int c) {
        switch (call) {
            case 16: x.way(a, b, c); break;
            case 17: x.hand(a); break;
            case 18: x.most(); break;
            case 19: x.bars(); break;
            case 20: x.best(a); break;
            case 21: x.bestOf(a); break;
            case 22: case 23: x.judge(); break;
            case 24: x.judged(a); break;
            case 25: x.holds(a, b); break;
            case 26: x.ways(a, b, c); break;
            case 27: x.latest(a, b); break;
            case 28: x.rest(); break;
            case 29: x.restOf(a); break;
            case 30: x.middle(a); break;
            default: x.middleBy(); break;
        }
    }

    private static void rest(ThirdHands x, int call, int a, int b, int c, Random r) {
        switch (call) {
            case 32: x.ring(); break;
            case 33: Check.ring(x, a, b); break;
            case 34: Check.lasts(x, a, b, c); break;
            case 35: x.lasts(); break;
            case 36: x.quarrel(a, b); break;
            case 37: x.starves(); break;
            case 38: x.mend(); break;
            case 39: x.live(); break;
            case 40: x.stop(); break;
            case 41: x.other(a, b, c); break;
            case 42: x.note(a, b, c, r.nextInt(50)); break;
            case 43: x.lies(a, b); break;
            case 44: x.image(a & 1); break;
            default: x.restore(a); x.count(b); break;
        }
    }

    /** The same calls give the same answers, whatever other objects did. */
    private static void same(int round) {
        if (round % 50 != 0) {
            return;
        }
        String text = World.draw(new Random(round), 6, 4).text;
        ThirdHands x = Check.of(text);
        ThirdHands y = Check.of(text);
        y.quarrel(0, 1);
        y.middle(0);
        y.live();
        y.stop();
        y.mend();
        y.other(5, 0, 1);
        Check.same("rest", y.rest(), x.rest());
        Check.same("most", y.most(), x.most());
        Check.same("best", y.best(0), x.best(0));
        Check.same("stop", y.stop(), x.stop());
    }
}
