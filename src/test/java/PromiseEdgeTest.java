import java.io.IOException;

/** The edges that promises 1 to 20 name, sentence by sentence. */
public final class PromiseEdgeTest {
    /** Numbers that are no numbers of anything. */
    private static final int[] WILD = {-1, -2, 100, 255, 256, 1 << 16, Integer.MAX_VALUE, Integer.MIN_VALUE};

    private static final String TOWN = "who a;who b asks 3;who c;sort s 9;sort t 9;makes a s 2 1;makes b with c t 1 4;wants c s 9;"
        + "wants a t 8 by 20;gives a b 1 2;gives b c 5 0;gives b a 0 9;";

    private PromiseEdgeTest() {
    }

    public static void main(String[] args) throws IOException {
        face();
        empty();
        feed();
        end();
        village();
        fault();
        unit();
        want();
        giving();
        way();
        hand();
        mostAndBars();
        best();
        plan();
        drawn();
        act();
        judge();
        judged();
        holds();
        Edge.finish("edges of promises 1 to 20", args[1], 1, 20);
    }

    private static void face() {
        Edge.test("The public face", "public static final int NONE = -1;", () -> Check.same("NONE", ThirdHands.NONE, -1));
        Edge.test("What it is", "An object is used for at most 512 calls after it has been made", () -> {
            ThirdHands x = new ThirdHands();
            int calls = 0;
            for (; calls < 500; calls += 4) {
                x.feed(0x77686f20, 0x613b0000, 0, 0, 0);
                x.end(6);
                Check.same("village", x.village(), 1);
                Check.same("people", x.count(0), 1);
            }
            for (; calls < 511; calls++) {
                x.feed(1, 2, 3, 4, 5);
            }
            Check.same("call 512", x.count(8), 220);
        });
    }

    private static void empty() {
        Edge.test("Promise 1", "An empty VILLAGE; an empty tape", () -> {
            ThirdHands x = new ThirdHands();
            int[] due = {0, 0, 0, 0, 3, 1, 0, 0, 0};
            for (int k = 0; k < due.length; k++) {
                Check.same("count " + k, x.count(k), due[k]);
            }
            Check.same("end of nothing", x.end(0), true);
            Check.same("end of one", x.end(1), false);
            Check.same("village of the empty tape", x.village(), 0);
            // a second object has nothing of a first one
            Check.of(TOWN);
            Check.same("units", new ThirdHands().count(2), 0);
        });
    }

    private static void feed() {
        Edge.test("Promise 2", "Twenty bytes come behind the tape, of each number the highest first", () -> {
            ThirdHands x = new ThirdHands();
            x.feed(0x77686f20, 0x613b7768, 0x6f20623b, 0x77686f20, 0x633b0000);
            x.end(18);
            Check.same("village", x.village(), 3);
            // behind what is there
            x.feed(0x77686f20, 0, 0, 0, 0);
            x.end(4);
            x.feed(0x613b0000, 0, 0, 0, 0);
            x.end(6);
            Check.same("village", x.village(), 1);
            // bytes above 127, and the sign: 255 is nobody, 0 is the first
            x.feed(0x00ff0000, 0, 0, 0, 0);
            x.end(2);
            Check.same("ring of 0 and 255", x.ring(), -2);
            x.feed(-1, -1, -1, -1, -1);
            Check.same("village of 255", x.village(), -1);
            for (int place = 0; place < 20; place++) {
                int[] five = {0x20202020, 0x20202020, 0x20202020, 0x20202020, 0x20202020};
                five[place / 4] ^= (0x20 ^ '?') << 24 - place % 4 * 8;
                x.feed(five[0], five[1], five[2], five[3], five[4]);
                Check.same("fault at " + place, x.village(), -1 - place);
            }
        });
        Edge.test("Promise 2", "how many it has", () -> {
            ThirdHands x = new ThirdHands();
            for (int k = 1; k <= 52; k++) {
                Check.same("feed", x.feed(0, 0, 0, 0, 0), 20 * k);
            }
            x.end(3);
            Check.same("feed behind three", x.feed(0, 0, 0, 0, 0), 23);
        });
        Edge.test("Promise 2", "NONE, and none come, if it would have more than 1040", () -> {
            ThirdHands x = new ThirdHands();
            x.feed(0x77686f20, 0x613b2020, 0x20202020, 0x20202020, 0x20202020);
            for (int k = 2; k <= 52; k++) {
                x.feed(0x20202020, 0x20202020, 0x20202020, 0x20202020, 0x20202020);
            }
            Check.same("full", x.count(8), 1040);
            Check.same("a feed more", x.feed(1, 2, 3, 4, 5), -1);
            Check.same("still full", x.count(8), 1040);
            x.end(1021);
            Check.same("one too many", x.feed(1, 2, 3, 4, 5), -1);
            Check.same("none come", x.count(8), 1021);
            x.end(1020);
            Check.same("up to the last", x.feed(1, 2, 3, 4, 5), 1040);
            x.end(1000);
            Check.same("what is there stays", x.village(), 1);
        });
    }

    private static void end() {
        Edge.test("Promise 3", "The tape has its first n bytes alone: true", () -> {
            ThirdHands x = new ThirdHands();
            x.feed(0x77686f20, 0x613b7768, 0x6f20623b, 0, 0);
            Check.same("all", x.end(20), true);
            Check.same("bytes", x.count(8), 20);
            Check.same("12", x.end(12), true);
            Check.same("bytes", x.count(8), 12);
            Check.same("6", x.end(6), true);
            Check.same("the same again", x.end(6), true);
            Check.same("the first ones", x.village(), 1);
            x.feed(1, 2, 3, 4, 5);
            Check.same("none", x.end(0), true);
            Check.same("bytes", x.count(8), 0);
        });
        Edge.test("Promise 3", "false, if it has not so many, or n is below 0", () -> {
            ThirdHands x = new ThirdHands();
            Check.same("one of none", x.end(1), false);
            x.feed(1, 2, 3, 4, 5);
            Check.same("21 of 20", x.end(21), false);
            for (int n : WILD) {
                Check.same("end of " + n, x.end(n), false);
            }
            Check.same("bytes", x.count(8), 20);
            x.end(7);
            Check.same("what is cut does not come back", x.end(8), false);
        });
    }

    private static void village() {
        Edge.test("Promise 4", "how many LINES", () -> {
            ThirdHands x = new ThirdHands();
            Check.same("none", Check.village(x, ""), 0);
            Check.same("one", Check.village(x, "law 2 any;"), 1);
            Check.same("twelve", Check.village(x, TOWN), 12);
            Check.same("none again", Check.village(x, ""), 0);
            int[] due = {0, 0, 0, 0, 3, 1};
            for (int k = 0; k < due.length; k++) {
                Check.same("nobody and nothing is there: count " + k, x.count(k), due[k]);
            }
            Check.same("no giving", x.giving(0, 1, 0), -1);
        });
        Edge.test("Promise 4", "(empty then, here and below, whatever is answered)", () -> {
            ThirdHands x = new ThirdHands();
            Check.village(x, "who a;");
            Check.same("behind a village", x.count(8), 0);
            Check.village(x, "?");
            Check.same("behind a fault", x.count(8), 0);
            Check.plan(x, "wait 1;");
            Check.same("behind a plan", x.count(8), 0);
            Check.plan(x, "?");
            Check.same("behind a fault", x.count(8), 0);
            for (int[] people : new int[][] {{0}, {0, 1}, {0, 0}, {}}) {
                Check.ring(x, people);
                Check.same("behind a ring", x.count(8), 0);
                Check.lasts(x, people);
                Check.same("behind lasts", x.count(8), 0);
            }
            Check.village(x, TOWN);
            for (int[] people : new int[][] {{0, 1}, {0, 2}}) {
                Check.ring(x, people);
                Check.same("behind a ring", x.count(8), 0);
                Check.lasts(x, people);
                Check.same("behind lasts", x.count(8), 0);
            }
        });
        Edge.test("Promise 4", "-1 less the place of a FAULT: the VILLAGE stays", () -> {
            ThirdHands x = Check.of(TOWN);
            Check.plan(x, "give 0 b;");
            x.note(0, 0, 1, 5);
            int best = x.best(0);
            Check.same("at 0", Check.village(x, ";"), -1);
            Check.same("at 1", Check.village(x, " ;"), -2);
            // faults behind lines of every kind
            Check.same("at the end", Check.village(x, "who z of 3 asks 9;who y;sort s 5;makes z s 1 0;wants y s 5;gives z y 9 9;law 5 any;?"),
                -1 - 83);
            int[] due = {3, 2, 3, 2, 3, 1, 1, 1, 0};
            for (int k = 0; k < due.length; k++) {
                Check.same("count " + k, x.count(k), due[k]);
            }
            Check.same("best", x.best(0), best);
            Check.same("pains", x.giving(0, 1, 0), 1);
            Check.same("the SORT", x.unit(2, 0), 1);
            Check.same("WORTH", x.want(0, 2), 9);
            Check.same("a name", Check.plan(x, "give 0 b;"), 1);
            Check.same("no name", Check.plan(x, "give 0 z;"), -8);
            Check.same("what b asks", x.way(0, 0, 0), 9);
        });
    }

    private static void fault() {
        Edge.test("Promise 5", "0 without one and ahead of any", () -> {
            ThirdHands x = new ThirdHands();
            Check.same("ahead of any", x.fault(), 0);
            Check.village(x, "?");
            Check.same("a fault", x.fault(), 1);
            Check.village(x, "who a;");
            Check.same("without one", x.fault(), 0);
            Check.plan(x, "?");
            Check.same("a fault", x.fault(), 1);
            Check.plan(x, "");
            Check.same("without one", x.fault(), 0);
        });
        Edge.test("Promise 5", "The kind of the FAULT of the latest village() or plan()", () -> {
            ThirdHands x = Check.of(TOWN);
            Check.village(x, "law 1 any;");
            Check.same("of a village", x.fault(), 2);
            Check.plan(x, "give 0 z;");
            Check.same("of a plan", x.fault(), 3);
            Check.ring(x, 0, 1);
            Check.lasts(x, 0, 1);
            x.drawn(3, 3);
            x.judge();
            x.image(0);
            x.restore(0);
            Check.same("no other call's", x.fault(), 3);
            Check.plan(x, "wait 1;".repeat(51));
            Check.same("of a plan", x.fault(), 4);
            Check.village(x, "who ;");
            Check.same("of a village", x.fault(), 1);
        });
    }

    private static void unit() {
        Edge.test("Promise 6", "0 its SORT, 1, 2 its FIRSTS (NONE: no second one), 3 its HOUR, 4 the HOUR in which it SPOILS", () -> {
            ThirdHands x = Check.of(TOWN);
            int[][] due = {{0, 0, -1, 1, 10}, {0, 0, -1, 1, 10}, {1, 1, 2, 4, 13}};
            for (int u = 0; u < 3; u++) {
                for (int k = 0; k < 5; k++) {
                    Check.same("unit " + u + " " + k, x.unit(u, k), due[u][k]);
                }
            }
            x = Check.of("who a;who b;sort s 9;makes b with a s 1 4;");
            Check.same("as told, not the lesser", x.unit(0, 1), 1);
            Check.same("the second told", x.unit(0, 2), 0);
        });
        Edge.test("Promise 6", "NoSuchElementException: no such ones", () -> {
            ThirdHands x = Check.of(TOWN);
            Check.refuses("unit 3", () -> x.unit(3, 0));
            Check.refuses("what 5", () -> x.unit(0, 5));
            for (int wild : WILD) {
                Check.refuses("unit " + wild, () -> x.unit(wild, 0));
                Check.refuses("what " + wild, () -> x.unit(0, wild));
            }
            Check.refuses("no units", () -> new ThirdHands().unit(0, 0));
            ThirdHands full = Check.of("who a;sort s 9;makes a s 9 0;makes a s 7 0;");
            Check.same("unit 15", full.unit(15, 1), 0);
            Check.refuses("unit 16", () -> full.unit(16, 0));
        });
    }

    private static void want() {
        Edge.test("Promise 7", "0 who, 1 the SORT, 2 WORTH, 3 'by'", () -> {
            ThirdHands x = Check.of(TOWN);
            int[][] due = {{2, 0, 9, 47}, {0, 1, 8, 20}};
            for (int w = 0; w < 2; w++) {
                for (int k = 0; k < 4; k++) {
                    Check.same("want " + w + " " + k, x.want(w, k), due[w][k]);
                }
            }
        });
        Edge.test("Promise 7", "NoSuchElementException: no such ones", () -> {
            ThirdHands x = Check.of(TOWN);
            Check.refuses("want 2", () -> x.want(2, 0));
            Check.refuses("what 4", () -> x.want(0, 4));
            for (int wild : WILD) {
                Check.refuses("want " + wild, () -> x.want(wild, 0));
                Check.refuses("what " + wild, () -> x.want(0, wild));
            }
            Check.refuses("no wants", () -> new ThirdHands().want(0, 0));
            ThirdHands full = Check.of("who a;sort s 9;" + "wants a s 6;".repeat(8));
            Check.same("want 7", full.want(7, 2), 6);
            Check.refuses("want 8", () -> full.want(8, 0));
        });
    }

    private static void giving() {
        Edge.test("Promise 8", "0 PAINS, 1 HOURS", () -> {
            ThirdHands x = Check.of(TOWN);
            Check.same("PAINS", x.giving(0, 1, 0), 1);
            Check.same("HOURS", x.giving(0, 1, 1), 2);
            Check.same("PAINS", x.giving(1, 0, 0), 0);
            Check.same("HOURS", x.giving(1, 0, 1), 9);
        });
        Edge.test("Promise 8", "NONE: none is told, no such ones, another what", () -> {
            ThirdHands x = Check.of(TOWN);
            for (int what = 0; what < 2; what++) {
                Check.same("none is told", x.giving(2, 1, what), -1);
                Check.same("none is told", x.giving(0, 2, what), -1);
                Check.same("to himself", x.giving(1, 1, what), -1);
                Check.same("nobody", x.giving(3, 1, what), -1);
                Check.same("nobody", x.giving(1, 3, what), -1);
            }
            Check.same("what 2", x.giving(0, 1, 2), -1);
            for (int wild : WILD) {
                Check.same("nobody", x.giving(wild, 1, 0), -1);
                Check.same("to nobody", x.giving(0, wild, 0), -1);
                Check.same("another what", x.giving(0, 1, wild), -1);
            }
            Check.same("nobody at all", new ThirdHands().giving(0, 1, 0), -1);
        });
    }

    private static void way() {
        Edge.test("Promise 9", "COST (what 0), HOURS (1), PAINS (2)", () -> {
            ThirdHands x = Check.of(TOWN);
            Check.same("COST", x.way(0, 0, 0), 9);
            Check.same("HOURS", x.way(0, 0, 1), 2);
            Check.same("PAINS", x.way(0, 0, 2), 6);
        });
        Edge.test("Promise 9", "NONE: none DOES, no such ones", () -> {
            ThirdHands x = Check.of(TOWN);
            for (int what = 0; what < 3; what++) {
                Check.same("none DOES", x.way(2, 1, what), -1);
                Check.same("another SORT", x.way(0, 1, what), -1);
                Check.same("no unit", x.way(3, 0, what), -1);
                Check.same("no want", x.way(0, 2, what), -1);
            }
            Check.same("what 3", x.way(0, 0, 3), -1);
            for (int wild : WILD) {
                Check.same("no unit", x.way(wild, 0, 0), -1);
                Check.same("no want", x.way(0, wild, 0), -1);
                Check.same("another what", x.way(0, 0, wild), -1);
            }
            Check.same("nothing", new ThirdHands().way(0, 0, 0), -1);
        });
    }

    private static void hand() {
        Edge.test("Promise 10", "The k-th hand (from 0) of the latest way() that was not NONE", () -> {
            ThirdHands x = Check.of(TOWN + "gives c b 2 0;gives c a 2 0;");
            x.way(2, 1, 2);
            Check.same("p1", x.hand(0), 1);
            Check.same("p2", x.hand(1), 2);
            Check.same("p3", x.hand(2), 0);
            x.way(0, 0, 1);
            Check.same("of the latest", x.hand(0), 0);
            // those that are NONE change nothing
            x.way(0, 1, 0);
            x.way(9, 0, 0);
            x.way(0, 9, 0);
            x.way(2, 1, 3);
            x.quarrel(0, 1);
            x.ways(2, 1, 3);
            x.latest(2, 1);
            Check.same("p1", x.hand(0), 0);
            Check.same("p2", x.hand(1), 1);
            Check.same("p3", x.hand(2), 2);
            // a village later still, and by another law
            Check.village(x, "who a;who b;sort s 9;makes b s 1 0;wants a s 9;gives b a 1 0;law 2 any;");
            Check.same("p3 of the old village", x.hand(2), 2);
            x.way(0, 0, 0);
            Check.same("p1", x.hand(0), 1);
            Check.same("p2", x.hand(1), 0);
            Check.same("no p3 by law 2", x.hand(2), -1);
        });
        Edge.test("Promise 10", "NONE: there is none such, or ahead of any", () -> {
            ThirdHands x = Check.of(TOWN);
            for (int k = 0; k < 6; k++) {
                Check.same("ahead of any", x.hand(k), -1);
            }
            x.way(2, 1, 0);
            Check.same("ahead of any that is not NONE", x.hand(0), -1);
            x.way(0, 0, 0);
            Check.same("p3", x.hand(2), 2);
            Check.same("no p4", x.hand(3), -1);
            for (int wild : WILD) {
                Check.same("no such hand", x.hand(wild), -1);
            }
            x = Check.of("who a;who b;sort s 9;makes a s 1 0;wants b s 9;gives a b 0 0;gives b a 0 0;law 6 any;");
            x.way(0, 0, 0);
            Check.same("p6", x.hand(5), 1);
            Check.same("no p7", x.hand(6), -1);
        });
    }

    private static void mostAndBars() {
        Edge.test("Promise 11", "MOST", () -> {
            Check.same("nothing", new ThirdHands().most(), 0);
            Check.same("one of two", Check.of(TOWN).most(), 1);
            Check.same("eight", Check.of("who a;who b;sort s 9;makes a s 9 0;gives a b 0 0;law 2 any;" + "wants b s 1;".repeat(8)).most(), 8);
        });
        Edge.test("Promise 12", "BARS, as bits; 0: there is none", () -> {
            Check.same("nothing", new ThirdHands().bars(), 0);
            Check.same("want 1", Check.of(TOWN).bars(), 2);
            Check.same("want 7", Check.of("who a;who b;sort s 9;makes a s 9 0;gives a b 0 0;law 2 any;" + "wants b s 1;".repeat(7)
                + "wants a s 1;").bars(), 128);
            Check.same("none", Check.of(TOWN + "gives c a 0 0;").bars(), 0);
            Check.same("all met", Check.of(TOWN + "gives c a 0 0;").most(), 2);
        });
    }

    private static void best() {
        Edge.test("Promise 13", "the sum (what 0), how many WANTS are met (1), all PAINS (2)", () -> {
            ThirdHands x = Check.of(TOWN + "gives c a 2 0;");
            // c's: 9 less 6 pains and 3 asked; a's: by b and c, 8 less 7 pains
            Check.same("sum", x.best(0), 1);
            Check.same("met", x.best(1), 2);
            Check.same("pains", x.best(2), 13);
            for (int k = 0; k < 3; k++) {
                Check.same("nothing", new ThirdHands().best(k), 0);
            }
        });
        Edge.test("Promise 13", "NONE: another what", () -> {
            ThirdHands x = Check.of(TOWN);
            Check.same("what 3", x.best(3), -1);
            for (int wild : WILD) {
                Check.same("what " + wild, x.best(wild), -1);
            }
        });
        Edge.test("Promise 14", "NONE: none, no such one", () -> {
            ThirdHands x = Check.of(TOWN);
            Check.same("the UNIT", x.bestOf(0), 0);
            Check.same("none", x.bestOf(1), -1);
            Check.same("no such one", x.bestOf(2), -1);
            for (int wild : WILD) {
                Check.same("no such one", x.bestOf(wild), -1);
            }
            Check.same("nothing", new ThirdHands().bestOf(0), -1);
        });
    }

    private static void plan() {
        Edge.test("Promise 15", "how many ACTS", () -> {
            ThirdHands x = Check.of(TOWN);
            Check.same("none", Check.plan(x, ""), 0);
            Check.same("one", Check.plan(x, "wait 1;"), 1);
            Check.same("fifty", Check.plan(x, "wait 1;".repeat(50)), 50);
            Check.same("three", Check.plan(x, "wait 1;use 0;give 2 c;"), 3);
            Check.same("count", x.count(6), 3);
        });
        Edge.test("Promise 15", "-1 less the place of a FAULT: the PLAN stays", () -> {
            ThirdHands x = Check.of(TOWN);
            Check.plan(x, "wait 7;use 2;give 1 c;");
            Check.same("at 0", Check.plan(x, "?"), -1);
            Check.same("behind other acts", Check.plan(x, "use 0;wait 9;use 1;wait 8;?"), -27);
            Check.same("51 acts", Check.plan(x, "wait 1;".repeat(51)), -351);
            int[][] due = {{2, 7, -1}, {1, 2, -1}, {0, 1, 2}};
            Check.same("acts", x.count(6), 3);
            for (int i = 0; i < 3; i++) {
                for (int k = 0; k < 3; k++) {
                    Check.same("act " + i + " " + k, x.act(i, k), due[i][k]);
                }
            }
        });
    }

    private static void drawn() {
        Edge.test("Promise 16", "The PLAN is DRAWN (m 1 to 50): how many ACTS", () -> {
            ThirdHands x = Check.of(TOWN);
            for (int m = 1; m <= 50; m++) {
                Check.same("drawn", x.drawn(m, 9), m);
                Check.same("acts", x.count(6), m);
            }
        });
        Edge.test("Promise 16", "NONE: not as told, or no UNITS (it stays)", () -> {
            ThirdHands x = Check.of(TOWN);
            Check.plan(x, "wait 7;use 2;");
            Check.same("none", x.drawn(0, 9), -1);
            Check.same("51", x.drawn(51, 9), -1);
            for (int wild : WILD) {
                Check.same("m " + wild, x.drawn(wild, 9), -1);
            }
            Check.same("acts", x.count(6), 2);
            Check.same("the first", x.act(0, 1), 7);
            Check.same("the second", x.act(1, 1), 2);
            ThirdHands none = Check.of("who a;sort s 9;");
            Check.plan(none, "wait 3;");
            Check.same("no UNITS", none.drawn(1, 9), -1);
            Check.same("it stays", none.act(0, 1), 3);
            Check.same("nothing at all", new ThirdHands().drawn(50, 0), -1);
        });
    }

    private static void act() {
        Edge.test("Promise 17", "0 what (0 give, 1 use, 2 wait), 1 the UNIT (of wait: N), 2 to whom (NONE: nobody)", () -> {
            ThirdHands x = Check.of(TOWN);
            Check.plan(x, "give 2 a;use 1;wait 47;");
            int[][] due = {{0, 2, 0}, {1, 1, -1}, {2, 47, -1}};
            for (int i = 0; i < 3; i++) {
                for (int k = 0; k < 3; k++) {
                    Check.same("act " + i + " " + k, x.act(i, k), due[i][k]);
                }
            }
        });
        Edge.test("Promise 17", "NoSuchElementException: no such ones", () -> {
            ThirdHands x = Check.of(TOWN);
            Check.refuses("no plan", () -> x.act(0, 0));
            Check.plan(x, "give 2 a;use 1;");
            Check.refuses("act 2", () -> x.act(2, 0));
            Check.refuses("what 3", () -> x.act(0, 3));
            for (int wild : WILD) {
                Check.refuses("act " + wild, () -> x.act(wild, 0));
                Check.refuses("what " + wild, () -> x.act(0, wild));
            }
            Check.plan(x, "wait 1;".repeat(50));
            Check.same("act 49", x.act(49, 1), 1);
            Check.refuses("act 50", () -> x.act(50, 0));
            Check.plan(x, "");
            Check.refuses("an empty plan", () -> x.act(0, 0));
        });
    }

    private static void judge() {
        Edge.test("Promise 18", "the first ACT that is WRONG; NONE: none", () -> {
            ThirdHands x = Check.of(TOWN);
            Check.same("no plan", x.judge(), -1);
            Check.plan(x, "wait 1;wait 1;");
            Check.same("none", x.judge(), -1);
            Check.plan(x, "use 0;use 0;");
            Check.same("the first", x.judge(), 0);
            Check.plan(x, "wait 1;use 0;wait 1;use 0;");
            Check.same("the second", x.judge(), 1);
            Check.same("again", x.judge(), 1);
            Check.plan(x, "wait 1;".repeat(47) + "wait 1;wait 1;wait 1;");
            Check.same("the 48th wait", x.judge(), 47);
            Check.same("on an empty village", new ThirdHands().judge(), -1);
        });
    }

    private static void judged() {
        Edge.test("Promise 19", "at its end (ahead of the ACT that is WRONG)", () -> {
            ThirdHands x = Check.of(TOWN);
            Check.plan(x, "wait 1;give 0 b;wait 2;give 0 c;use 0;wait 7;use 1;wait 5;");
            Check.same("judge", x.judge(), 6);
            int[] due = {2, 10, 1, 6, 2};
            for (int k = 0; k < 5; k++) {
                Check.same("judged " + k, x.judged(k), due[k]);
            }
        });
        Edge.test("Promise 19", "1 the HOUR, 2 WANTS met, as bits, 3 PAINS in all, 4 UNITS that are SPOILT unused, as bits", () -> {
            String all = "who a;who b;sort s 1;makes a s 9 0;makes a s 7 0;gives a b 99 0;law 2 any;" + "wants b s 1;".repeat(8);
            ThirdHands x = Check.of(all);
            StringBuilder go = new StringBuilder();
            for (int u = 8; u < 16; u++) {
                go.append("give ").append(u).append(" b;use ").append(u).append(";");
            }
            Check.plan(x, go.toString());
            x.judge();
            int[] due = {0, 0, 255, 792, 0};
            for (int k = 0; k < 5; k++) {
                Check.same("judged " + k, x.judged(k), due[k]);
            }
            Check.plan(x, go + "wait 1;");
            x.judge();
            Check.same("the other eight are SPOILT", x.judged(4), 255);
            Check.plan(x, "wait 47;");
            x.judge();
            Check.same("HOUR", x.judged(1), 47);
            Check.same("all sixteen are SPOILT", x.judged(4), 65535);
            // the hour of a giving is none that goes by, and what is not made yet is not SPOILT
            x = Check.of("who a;who b;sort s 1;makes a s 1 0;makes a s 1 9;gives a b 3 9;");
            Check.plan(x, "give 0 b;wait 5;");
            x.judge();
            int[] less = {0, 5, 0, 3, 1};
            for (int k = 0; k < 5; k++) {
                Check.same("judged " + k, x.judged(k), less[k]);
            }
        });
        Edge.test("Promise 19", "0 why it was WRONG (1 to 8; 0: it was not)", () -> {
            ThirdHands x = Check.of(TOWN);
            Check.plan(x, "use 0;");
            x.judge();
            Check.same("why", x.judged(0), 1);
            Check.plan(x, "wait 1;");
            Check.same("of the latest judge, not of the plan", x.judged(0), 1);
            x.judge();
            Check.same("it was not", x.judged(0), 0);
        });
        Edge.test("Promise 19", "NONE for another what, or ahead of any", () -> {
            ThirdHands x = Check.of(TOWN);
            Check.plan(x, "wait 1;");
            for (int k = 0; k < 5; k++) {
                Check.same("ahead of any", x.judged(k), -1);
            }
            x.judge();
            Check.same("what 5", x.judged(5), -1);
            for (int wild : WILD) {
                Check.same("what " + wild, x.judged(wild), -1);
            }
            Check.same("hour", x.judged(1), 1);
        });
    }

    private static void holds() {
        Edge.test("Promise 20", "of two FIRSTS the first told; NONE: it is gone", () -> {
            ThirdHands x = Check.of(TOWN.replace("makes b with c", "makes c with b"));
            Check.plan(x, "wait 1;give 0 b;wait 2;give 0 c;use 0;");
            x.judge();
            Check.same("of two the first told", x.holds(2, 0), 2);
            Check.same("gone", x.holds(0, 0), -1);
            Check.same("its FIRST", x.holds(1, 0), 0);
        });
        Edge.test("Promise 20", "how many-eth that one is (1; 0: gone)", () -> {
            ThirdHands x = Check.of(TOWN);
            Check.plan(x, "wait 1;give 0 b;give 1 b;wait 2;give 0 c;use 0;");
            x.judge();
            Check.same("gone", x.holds(0, 1), 0);
            Check.same("the second", x.holds(1, 1), 2);
            Check.same("the first", x.holds(2, 1), 1);
        });
        Edge.test("Promise 20", "it is there, not SPOILT, he is the N-th, has a WANT of it as for 'use'", () -> {
            String go = "wait 1;give 0 b;wait 2;";
            Check.same("the N-th", may(TOWN, go + "give 0 c;"), 1);
            Check.same("the second", may(TOWN, go), 0);
            Check.same("the fourth", may(TOWN + "gives c a 0 0;wants a s 1;", go + "give 0 c;give 0 a;"), 0);
            Check.same("used", may(TOWN, go + "give 0 c;use 0;"), 0);
            Check.same("at its last hour", may(TOWN, go + "give 0 c;wait 6;"), 1);
            Check.same("SPOILT", may(TOWN, go + "give 0 c;wait 7;"), 0);
            Check.same("on its way", may(TOWN.replace("b c 5 0", "b c 5 2"), go + "give 0 c;wait 1;"), 0);
            Check.same("there", may(TOWN.replace("b c 5 0", "b c 5 2"), go + "give 0 c;wait 2;"), 1);
            Check.same("at 'by'", may(TOWN.replace("c s 9", "c s 9 by 3"), go + "give 0 c;"), 1);
            Check.same("'by' is over", may(TOWN.replace("c s 9", "c s 9 by 2"), go + "give 0 c;"), 0);
            Check.same("no WANT", may(TOWN.replace("c s 9", "c t 9"), go + "give 0 c;"), 0);
            Check.same("his WANT is met", may(TOWN, "wait 1;give 0 b;give 1 b;wait 2;give 0 c;give 1 c;use 1;"), 0);
            Check.same("not made", may(TOWN, ""), 0);
        });
        Edge.test("Promise 20", "NONE: no such ones, or ahead of any", () -> {
            ThirdHands x = Check.of(TOWN);
            for (int what = 0; what < 3; what++) {
                Check.same("ahead of any", x.holds(0, what), -1);
            }
            x.judge();
            Check.same("the last one", x.holds(2, 0), 1);
            for (int what = 0; what < 3; what++) {
                Check.same("no unit", x.holds(3, what), -1);
            }
            Check.same("what 3", x.holds(0, 3), -1);
            for (int wild : WILD) {
                Check.same("no unit", x.holds(wild, 0), -1);
                Check.same("another what", x.holds(0, wild), -1);
            }
            x = new ThirdHands();
            x.judge();
            Check.same("of an empty village", x.holds(0, 0), -1);
        });
        Edge.test("Promise 20", "Then of UNIT u of that VILLAGE", () -> {
            ThirdHands x = Check.of(TOWN);
            Check.plan(x, "wait 1;give 0 b;");
            x.judge();
            Check.village(x, "who a;");
            Check.same("as it was", x.holds(0, 0), 1);
            Check.same("as it was", x.holds(2, 1), 1);
            x.judge();
            Check.same("of the village now", x.holds(0, 0), -1);
            Check.village(x, TOWN);
            Check.same("not of a later one", x.holds(0, 0), -1);
        });
    }

    private static int may(String town, String plan) {
        ThirdHands x = Check.of(town);
        Check.same("the test's own plan " + plan, Check.plan(x, plan) >= 0, true);
        Check.same("the test's own plan is not wrong: " + plan, x.judge(), -1);
        return x.holds(0, 2);
    }
}
