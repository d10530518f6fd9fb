import java.io.IOException;

/** The edges of ways, of wants met and of asking, sentence by sentence: Terms 2 and of Terms 4 what rests on BEST. */
public final class WayEdgeTest {
    private static final String WAYS = "Promise 9, Terms 2";
    private static final String ABC = "who a;who b;who c;sort s 48;";

    private WayEdgeTest() {
    }

    public static void main(String[] args) throws IOException {
        units();
        hands();
        backs();
        costs();
        doing();
        taken();
        mostAndBars();
        best();
        middle();
        rest();
        quarrelAndMend();
        liveAndStop();
        Edge.finish("edges of ways", args[1], 1, 0);
    }

    private static int way(String town) {
        return Check.of(town).way(0, 0, 0);
    }

    private static void path(String town, int... due) {
        ThirdHands x = Check.of(town);
        x.way(0, 0, 0);
        for (int k = 0; k < due.length; k++) {
            Check.same("hand " + k + " of " + town, x.hand(k), due[k]);
        }
        Check.same("the hand behind the last of " + town, x.hand(due.length), -1);
    }

    private static void units() {
        Edge.test("Promise 6, Terms 2", "from its HOUR on; it SPOILS LIFE HOURS later", () -> {
            ThirdHands x = Check.of("who a;sort s 1;sort t 48;makes a s 1 0;makes a s 1 47;makes a t 1 0;makes a t 1 47;");
            int[][] due = {{0, 1}, {47, 48}, {0, 48}, {47, 95}};
            for (int u = 0; u < 4; u++) {
                Check.same("HOUR of " + u, x.unit(u, 3), due[u][0]);
                Check.same("SPOILS of " + u, x.unit(u, 4), due[u][1]);
            }
        });
        Edge.test("Promise 21, Terms 2", "both of those, if there is a 'with'", () -> {
            String givings = "wants c s 9;gives a c 1 0;gives b c 2 0;law 2 any;";
            Check.same("by both", Check.of(ABC + "makes a with b s 1 0;" + givings).ways(0, 0, 2), 2);
            Check.same("by b and a", Check.of(ABC + "makes b with a s 1 0;" + givings).ways(0, 0, 2), 2);
            Check.same("by a alone", Check.of(ABC + "makes a s 1 0;" + givings).ways(0, 0, 2), 1);
            path(ABC + "makes b with a s 1 0;" + givings, 0, 2);
        });
    }

    private static final String CHAIN = "who a;who b;who c;who d;who e;who f;sort s 48;makes a s 1 0;gives a b 1 1;gives b c 2 1;"
        + "gives c d 3 1;gives d e 4 1;gives e f 5 1;";

    private static void hands() {
        Edge.test(WAYS, "A WAY of a UNIT to a WHO by the law of N: hands p1, .., pN", () -> {
            path(CHAIN + "wants b s 9;law 2 once;", 0, 1);
            path(CHAIN + "wants f s 99;law 6 once;", 0, 1, 2, 3, 4, 5);
            Check.same("cost of six", way(CHAIN + "wants f s 99;law 6 once;"), 15);
            Check.same("the third, not the second", way(CHAIN + "wants b s 9;"), -1);
            Check.same("the third, not the fourth", way(CHAIN + "wants d s 9;"), -1);
            Check.same("the third", way(CHAIN + "wants c s 9;"), 3);
            Check.same("the fifth, not the sixth", way(CHAIN + "wants f s 9;law 5 any;"), -1);
            // by the greatest numbers
            String eight = "who a;who b;who c;who d;who e;who f;who g;who h;sort s 48;makes h s 1 0;makes g s 1 0;gives h g 1 1;"
                + "gives g f 2 2;gives f e 3 3;gives e d 4 4;gives d c 5 5;gives c b 6 6;";
            path(eight + "wants c s 99;law 6 once;", 7, 6, 5, 4, 3, 2);
            Check.same("cost", way(eight + "wants c s 99;law 6 once;"), 15);
            Check.same("hours", Check.of(eight + "wants c s 99;law 6 once;").way(0, 0, 1), 15);
            Check.same("hours of the other", Check.of(eight + "wants b s 99;law 6 once;").way(1, 0, 1), 20);
        });
        Edge.test(WAYS, "p1 one of its FIRSTS, pN that WHO, each two that follow one another told by 'gives'", () -> {
            String town = ABC + "makes a s 1 0;wants c s 9;";
            Check.same("no giving", way(town), -1);
            Check.same("the other way round", way(town + "gives b a 1 0;gives c b 1 0;"), -1);
            Check.same("the second giving lacks", way(town + "gives a b 1 0;gives a c 1 0;"), -1);
            Check.same("from no FIRST", way(town + "who d;gives d b 1 0;gives b c 1 0;"), -1);
            Check.same("to another WHO", way(town + "who d;gives a b 1 0;gives b d 1 0;"), -1);
            Check.same("told", way(town + "gives a b 1 0;gives b c 1 0;"), 2);
        });
    }

    /** Ways of so many hands by each BACK: any, first, once, towns. */
    private static void byBacks(String town, int hands, int... due) {
        for (int back = 0; back < 4; back++) {
            ThirdHands x = Check.of(town + "law 3 " + World.BACKS[back] + ";");
            Check.same(hands + " hands, " + World.BACKS[back] + ", " + town, x.ways(0, 0, hands), due[back]);
        }
    }

    private static final String OWN = "who a of 1;who b of 2;who c of 3;sort s 48;";

    private static void backs() {
        Edge.test(WAYS, "BACK: any: that is all", () -> {
            byBacks(OWN + "makes a s 1 0;wants c s 9;gives a b 0 0;gives b a 0 0;gives b c 0 0;", 5, 1, 0, 0, 0);
            // a b c b c: b and c come twice, a does not
            byBacks(OWN + "makes a s 1 0;wants c s 9;gives a b 0 0;gives c b 0 0;gives b c 0 0;", 5, 1, 0, 0, 0);
        });
        Edge.test(WAYS, "first: nobody comes twice but FIRSTS", () -> {
            // a b a c: a comes twice, and is a FIRST
            byBacks(OWN + "makes a s 1 0;wants c s 9;gives a b 0 0;gives b a 0 0;gives a c 0 0;", 4, 1, 1, 0, 0);
            // a b a b a: by FIRSTS alone
            byBacks(OWN + "makes a with b s 1 0;wants a s 9;gives a b 0 0;gives b a 0 0;", 5, 1, 1, 0, 0);
            // a c b c: c comes twice
            byBacks(OWN + "makes a s 1 0;wants c s 9;gives a c 0 0;gives c b 0 0;gives b c 0 0;", 4, 1, 0, 0, 0);
        });
        Edge.test(WAYS, "once: nobody comes twice, no FIRST comes but as p1", () -> {
            // a b a: p1 comes twice
            byBacks(OWN + "makes a s 1 0;wants a s 9;gives a b 0 0;gives b a 0 0;", 3, 1, 1, 0, 0);
            // a b c: b is the other FIRST; b a c is not told
            byBacks(OWN + "makes a with b s 1 0;wants c s 9;gives a b 0 0;gives b c 0 0;", 3, 1, 1, 0, 1);
            // the other FIRST as the last hand
            byBacks(OWN + "makes a with c s 1 0;wants c s 9;gives a b 0 0;gives b c 0 0;", 3, 1, 1, 0, 1);
            byBacks(OWN + "makes a s 1 0;wants c s 9;gives a b 0 0;gives b c 0 0;", 3, 1, 1, 1, 1);
        });
        Edge.test(WAYS, "towns: all hands are of unlike TOWNS", () -> {
            String givings = "sort s 48;makes a s 1 0;wants c s 9;gives a b 0 0;gives b c 0 0;";
            byBacks("who a of 1;who b of 1;who c of 3;" + givings, 3, 1, 1, 1, 0);
            byBacks("who a of 1;who b of 2;who c of 1;" + givings, 3, 1, 1, 1, 0);
            byBacks("who a of 1;who b of 2;who c of 2;" + givings, 3, 1, 1, 1, 0);
            byBacks("who a;who b of 0;who c of 2;" + givings, 3, 1, 1, 1, 0);
            byBacks("who a;who b of 9;who c of 2;" + givings, 3, 1, 1, 1, 1);
            for (String go : new String[] {"a with b", "b with a", "c", "a", "b"}) {
                ThirdHands x = Check.of("who a of 5;who b of 5;who c of 5;sort s 48;makes " + go + " s 1 0;wants a s 1;wants b s 1;"
                    + "wants c s 1;gives a b 0 0;gives a c 0 0;gives b a 0 0;gives b c 0 0;gives c a 0 0;gives c b 0 0;law 2 towns;");
                Check.same("three of one TOWN", x.most(), 0);
            }
            // three of all TOWNS, along all orders
            int[][] orders = {{0, 1, 2}, {0, 2, 1}, {1, 0, 2}, {1, 2, 0}, {2, 0, 1}, {2, 1, 0}};
            for (int[] o : orders) {
                String go = "sort s 48;makes " + World.name(o[0]) + " s 1 0;wants " + World.name(o[2]) + " s 9;gives " + World.name(o[0])
                    + " " + World.name(o[1]) + " 0 0;gives " + World.name(o[1]) + " " + World.name(o[2]) + " 0 0;";
                for (int k = 0; k < 27; k++) {
                    int[] town = {k % 3, k / 3 % 3, k / 9};
                    boolean unlike = town[0] != town[1] && town[1] != town[2] && town[0] != town[2];
                    byBacks("who a of " + town[0] + ";who b of " + town[1] + ";who c of " + town[2] + ";" + go, 3, 1, 1, 1,
                        unlike ? 1 : 0);
                }
            }
        });
    }

    private static void costs() {
        Edge.test(WAYS, "Its HOURS, its PAINS: those of all givings, added", () -> {
            ThirdHands x = Check.of(CHAIN.replace("gives e f 5 1", "gives e f 99 9") + "wants f s 999;law 6 any;");
            Check.same("PAINS", x.way(0, 0, 2), 1 + 2 + 3 + 4 + 99);
            Check.same("HOURS", x.way(0, 0, 1), 4 + 9);
            // a b a b: the giving from a to b twice
            x = Check.of("who a;who b;sort s 48;makes a s 1 0;wants b s 9;gives a b 3 2;gives b a 5 4;law 4 any;");
            Check.same("PAINS", x.way(0, 0, 2), 11);
            Check.same("HOURS", x.way(0, 0, 1), 8);
        });
        Edge.test(WAYS, "ASKED: what p2 to the last but one ask, added (as often as each comes); COST: PAINS and ASKED", () -> {
            String asking = "who a asks 10;who b asks 20;who c asks 40;sort s 48;makes a s 1 0;wants c s 999;gives a b 1 0;"
                + "gives b c 2 0;gives b a 3 0;gives a c 4 0;";
            Check.same("of two hands nobody is between", way(asking + "law 2 any;"), 4);
            Check.same("of three b", way(asking + "law 3 any;"), 3 + 20);
            Check.same("of four b and a", way(asking + "law 4 any;"), 1 + 3 + 4 + 20 + 10);
            Check.same("of five b twice, a once", way(asking + "law 5 any;"), 1 + 3 + 1 + 2 + 20 + 10 + 20);
            ThirdHands x = Check.of(asking + "law 5 any;");
            x.way(0, 0, 0);
            Check.same("PAINS alone", x.way(0, 0, 2), 7);
        });
    }

    /** A unit of hour 5 that is given in 3 hours: it is there at 8. */
    private static String inTime(int life, String by) {
        return "who a;who b;sort s " + life + ";makes a s 1 5;gives a b 7 3;law 2 any;wants b s 1" + by + ";";
    }

    private static void doing() {
        Edge.test(WAYS, "if the UNIT's HOUR and its HOURS together are 'by' at most", () -> {
            Check.same("by 8", way(inTime(48, " by 8")), 7);
            Check.same("by 7", way(inTime(48, " by 7")), -1);
            Check.same("by 9", way(inTime(48, " by 9")), 7);
            Check.same("by 0", way(inTime(48, " by 0")), -1);
            String late = "who a;who b;sort s 48;makes a s 1 47;law 2 any;wants b s 1;gives a b 0 ";
            Check.same("at 47, by 47 without", way(late + "0;"), 0);
            Check.same("at 48", way(late + "1;"), -1);
            String early = "who a;who b;sort s 48;makes a s 1 0;law 2 any;wants b s 1 by 0;gives a b 0 ";
            Check.same("at 0, by 0", way(early + "0;"), 0);
            Check.same("at 1, by 0", way(early + "1;"), -1);
        });
        Edge.test(WAYS, "and are less than when it SPOILS", () -> {
            Check.same("spoils at 9", way(inTime(4, "")), 7);
            Check.same("spoils at 8", way(inTime(3, "")), -1);
            Check.same("a life of 1, at once", way("who a;who b;sort s 1;makes a s 1 9;gives a b 0 0;law 2 any;wants b s 1;"), 0);
            Check.same("a life of 1, in 1", way("who a;who b;sort s 1;makes a s 1 9;gives a b 0 1;law 2 any;wants b s 1;"), -1);
        });
        Edge.test(WAYS, "of that SORT, pN being who wants", () -> {
            ThirdHands x = Check.of(ABC + "sort t 9;makes a s 1 0;wants b s 1;wants b t 1;wants c s 1;gives a b 2 0;law 2 any;");
            Check.same("his", x.way(0, 0, 0), 2);
            Check.same("of another SORT", x.way(0, 1, 0), -1);
            Check.same("of another WHO", x.way(0, 2, 0), -1);
        });
    }

    private static void taken() {
        String town = "who a;who b;who c;who d;sort s 9;wants d s 99;";
        Edge.test(WAYS, "of the least COST", () -> {
            // the cheap one spoils on its way
            path(town + "makes a s 1 0;gives a b 1 0;gives b d 2 0;gives a c 1 9;gives c d 1 0;", 0, 1, 3);
            path(town.replace("s 9;", "s 48;") + "makes a s 1 0;gives a b 1 0;gives b d 2 0;gives a c 1 9;gives c d 1 9;", 0, 2, 3);
            // asks count: 2 pains and 2 asked are more than 3 pains
            path(town.replace("who c", "who c asks 2") + "makes a s 1 0;gives a b 1 0;gives b d 2 0;gives a c 1 0;gives c d 1 0;",
                0, 1, 3);
            path(town.replace("who b", "who b asks 2") + "makes a s 1 0;gives a b 1 0;gives b d 1 0;gives a c 1 0;gives c d 2 0;",
                0, 2, 3);
        });
        Edge.test(WAYS, "of like ones of the least HOURS", () -> {
            path(town + "makes a s 1 0;gives a b 1 2;gives b d 1 0;gives a c 1 0;gives c d 1 1;", 0, 2, 3);
            path(town + "makes a s 1 0;gives a b 1 0;gives b d 1 1;gives a c 1 1;gives c d 1 1;", 0, 1, 3);
        });
        Edge.test(WAYS, "of like ones the first (p1, then p2, ..)", () -> {
            path(town + "makes a s 1 0;gives a c 1 1;gives c d 1 1;gives a b 1 1;gives b d 1 1;", 0, 1, 3);
            // p1 ahead of p2: a c d ahead of b a d
            path(town + "makes b with a s 1 0;gives b a 1 1;gives a d 1 1;gives a c 1 1;gives c d 1 1;", 0, 2, 3);
            path("who a;who b;who c;who d;who e;sort s 9;wants e s 99;makes a s 1 0;law 4 any;gives a b 1 0;gives b d 1 0;"
                + "gives d e 1 0;gives b c 1 0;gives c e 1 0;", 0, 1, 2, 4);
        });
    }

    private static void mostAndBars() {
        Edge.test("Promise 11, Terms 2", "each by one UNIT with a WAY that DOES, no UNIT twice", () -> {
            String town = "who a;who b;who c;sort s 9;gives a b 1 0;gives a c 9 0;law 2 any;wants b s 5;wants c s 5;wants b s 0;";
            Check.same("no UNIT", Check.of(town).most(), 0);
            Check.same("one", Check.of(town + "makes a s 1 0;").most(), 1);
            Check.same("two", Check.of(town + "makes a s 2 0;").most(), 2);
            Check.same("three, though two do not pay", Check.of(town + "makes a s 9 0;").most(), 3);
            // the unit that does for both must be left to the one for whom the other does not
            Check.same("by turns", Check.of("who a;who b;who c;sort s 9;law 2 any;wants b s 1;wants c s 1;makes a s 1 0;"
                + "makes c s 1 0;gives a b 1 0;gives a c 1 0;gives c b 1 0;").most(), 2);
            Check.same("no WANT", Check.of("who a;who b;sort s 9;law 2 any;makes a s 1 0;gives a b 1 0;").most(), 0);
        });
        Edge.test("Promise 14, Terms 2", "BEST: the greatest sum of WORTH less COST of WANTS that are met so", () -> {
            // all eight wants, by sorts of which some are wanted by nobody
            bests("who a;who b;sort s 9;sort t 9;sort v 9;sort z 9;law 2 any;makes a v 1 0;makes a t 1 0;gives a b 1 0;wants b t 5;"
                + "wants a v 5;" + "wants b t 0;".repeat(6), 4, 1, 1, -1, -1, -1, -1, -1, -1, -1);
            bests("who a;who b;sort s 9;sort t 9;law 2 any;makes a t 1 0;gives a b 1 0;" + "wants a t 9;".repeat(7) + "wants b t 9;", 8, 1,
                -1, -1, -1, -1, -1, -1, -1, 0);
        });
        Edge.test("Promise 12, Terms 2", "the least set of WANTS that are more than the UNITS with a WAY that DOES for one of them", () -> {
            String town = "who a;who b;sort s 9;gives a b 1 0;law 2 any;wants b s 1;wants b s 1;";
            Check.same("two for two", Check.of(town + "makes a s 2 0;").bars(), 0);
            Check.same("two for one", Check.of(town + "makes a s 1 0;").bars(), 3);
            Check.same("one for none", Check.of(town).bars(), 1);
            Check.same("three for two", Check.of(town + "makes a s 2 0;wants b s 1;").bars(), 7);
            Check.same("eight for seven", Check.of(town + "makes a s 7 0;" + "wants b s 1;".repeat(6)).bars(), 255);
            Check.same("eight for eight", Check.of(town + "makes a s 8 0;" + "wants b s 1;".repeat(6)).bars(), 0);
        });
        Edge.test("Promise 12, Terms 2", "(fewest, then as bits)", () -> {
            String town = "who a;who b;who c;sort s 9;sort t 9;law 2 any;gives a b 1 0;makes a s 1 0;";
            // wants 0 and 1 share a unit, want 2 has none: one is fewer, though its bits are greater
            Check.same("fewest", Check.of(town + "wants b s 1;wants b s 1;wants b t 1;").bars(), 4);
            Check.same("of like ones", Check.of(town + "wants b s 1;wants c s 1;wants b t 1;").bars(), 2);
            // 0 and 3 share one, 1 and 2 the other: 6 is less than 9
            Check.same("as bits", Check.of(town + "makes a t 1 0;wants b s 1;wants b t 1;wants b t 1;wants b s 1;").bars(), 6);
        });
    }

    private static void bests(String town, int sum, int met, int... units) {
        ThirdHands x = Check.of(town);
        Check.same("sum of " + town, x.best(0), sum);
        Check.same("met of " + town, x.best(1), met);
        for (int w = 0; w < units.length; w++) {
            Check.same("unit for " + w + " of " + town, x.bestOf(w), units[w]);
        }
    }

    private static void best() {
        Edge.test("Promise 13, Terms 2", "the greatest sum of WORTH less COST of WANTS that are met so (each WAY as taken)", () -> {
            String town = "who a;who b;who c;sort s 9;makes a s 1 0;law 2 any;gives a b 4 0;gives a c 1 0;";
            bests(town + "wants b s 9;wants c s 5;", 5, 1, 0, -1);
            bests(town + "wants b s 8;wants c s 6;", 5, 1, -1, 0);
            bests(town + "wants b s 3;wants c s 0;", 0, 0, -1, -1);
            bests(town + "wants b s 5;", 1, 1, 0);
            // eight of the greatest worth, at the greatest cost but one
            bests("who a;who b;sort s 9;makes a s 8 0;law 2 any;gives a b 99 0;" + "wants b s 999;".repeat(8), 7200, 8,
                0, 1, 2, 3, 4, 5, 6, 7);
        });
        Edge.test("Promise 13, Terms 2", "of like ones the most WANTS", () -> {
            String town = "who a;who b;sort s 9;makes a s 2 0;law 2 any;gives a b 5 0;";
            bests(town + "wants b s 5;", 0, 1, 0);
            bests(town + "wants b s 5;wants b s 5;", 0, 2, 0, 1);
            bests(town + "wants b s 5;wants b s 4;", 0, 1, 0, -1);
            // one want for 5, or two for 5
            bests("who a;who b;who c;sort s 9;makes a s 1 0;makes c s 1 0;law 2 any;gives a b 1 0;gives c b 2 0;wants b s 6;"
                + "wants b s 2;", 5, 2, 0, 1);
        });
        Edge.test("Promise 14, Terms 2", "of like ones the first (WANT by WANT the lesser UNIT, none behind all)", () -> {
            String town = "who a;who b;sort s 9;law 2 any;gives a b 1 0;";
            bests(town + "makes a s 1 0;wants b s 5;wants b s 5;", 4, 1, 0, -1);
            bests(town + "makes a s 3 0;wants b s 5;wants b s 5;", 8, 2, 0, 1);
            bests(town + "makes a s 9 0;makes a s 7 0;wants b s 5;", 4, 1, 0);
            // want 0 leaves unit 0 to want 1 alone if it must
            bests(town + "makes a s 1 0;makes a s 1 3;wants b s 5;wants b s 5 by 2;", 8, 2, 1, 0);
            // the lesser unit for want 0 weighs more than the lesser one for want 1
            bests("who a;who b;who c;who d;sort s 9;sort t 9;law 2 any;gives a b 1 0;makes a t 1 0;makes a s 2 0;wants b s 5;"
                + "wants b t 2;wants b s 5;", 9, 3, 1, 0, 2);
            // unit 15 is no 'none'
            bests("who a;who b;sort s 9;sort t 9;law 2 any;gives a b 1 0;makes a t 9 0;makes a t 6 0;makes a s 1 0;wants b s 5;"
                + "wants b t 1;", 4, 2, 15, 0);
        });
    }

    private static final String MIDDLE = "who a;who b;who c;sort s 9;makes a s 1 0;gives a b 1 0;gives b c 1 0;";

    private static void middles(String town, int who, int ask, int gets) {
        ThirdHands x = Check.of(town);
        Check.same("middle of " + who + " in " + town, x.middle(who), ask);
        Check.same("he gets in " + town, x.middleBy(), gets);
    }

    private static void middle() {
        Edge.test("Promise 25, Terms 4", "what that one asks (0 to 20, all others as told)", () -> {
            middles(MIDDLE + "wants c s 21;", 1, 19, 19);
            middles(MIDDLE + "wants c s 22;", 1, 20, 20);
            middles(MIDDLE + "wants c s 23;", 1, 20, 20);
            middles(MIDDLE + "wants c s 999;", 1, 20, 20);
            middles(MIDDLE + "makes a s 1 0;wants c s 99;wants c s 99;", 1, 20, 40);
            middles(MIDDLE + "makes a s 7 0;" + "wants c s 99;".repeat(8), 1, 20, 160);
            middles(MIDDLE + "wants c s 3;", 1, 1, 1);
            middles(MIDDLE + "wants c s 2;", 1, 0, 0);
            middles(MIDDLE + "wants c s 1;", 1, 0, 0);
            // his own asking as told is no matter
            middles(MIDDLE.replace("who b", "who b asks 99") + "wants c s 10;", 1, 8, 8);
            // the others ask as told: d asks 3, and b is the lesser of like ones
            middles(MIDDLE + "who d asks 3;gives a d 1 0;gives d c 1 0;wants c s 99;", 1, 3, 3);
            middles(MIDDLE + "who d asks 99;gives a d 1 0;gives d c 1 0;wants c s 999;", 1, 20, 20);
        });
        Edge.test("Promise 25, Terms 4", "times how often he comes between the first and the last hand of WAYS taken there", () -> {
            middles(MIDDLE + "wants c s 9;", 0, 0, 0);
            middles(MIDDLE + "wants c s 9;", 2, 0, 0);
            // two wants: 2 times 4 against 1 time 7
            middles(MIDDLE + "makes a s 1 0;wants c s 9;wants c s 6;", 1, 4, 8);
            // a b a b c: twice in one way
            middles(MIDDLE + "gives b a 1 0;law 5 any;wants c s 10;", 1, 3, 6);
            // of two hands nobody is between
            middles(MIDDLE + "law 2 any;wants b s 9;", 1, 0, 0);
            // a WANT that nothing meets is no matter
            middles(MIDDLE + "wants a s 99;wants c s 9;wants b s 99;", 1, 7, 7);
        });
        Edge.test("Promise 25, Terms 4", "MIDDLE of a WHO: what that one asks", () -> {
            // it is asked, not told: what he asks as told counts on
            ThirdHands x = Check.of(MIDDLE.replace("who b", "who b asks 4") + "wants c s 9;");
            Check.same("middle", x.middle(1), 7);
            Check.same("the sum by the law as told", x.other(3, 1, 1), 3);
            Check.same("the cost", x.way(0, 0, 0), 6);
            x.quarrel(0, 2);
            Check.same("still met", x.starves(), 0);
            Check.same("again", x.middle(1), 7);
            x = Check.of("who b asks 4;who a;who c;sort s 9;makes a s 1 0;gives a b 1 0;gives b c 1 0;wants c s 9;");
            Check.same("of the last one", x.middle(2), 0);
            Check.same("the first one asks on", x.other(3, 1, 1), 3);
        });
        Edge.test("Promise 25, Terms 4", "of like ones the least", () -> {
            // 2 times 4, 1 time 8
            middles(MIDDLE + "makes a s 1 0;wants c s 10;wants c s 6;", 1, 4, 8);
            // nothing to be had: 0, not 20
            middles(MIDDLE, 1, 0, 0);
        });
    }

    private static final String RIVALS = "who a;who b asks 2;who c;sort s 9;makes a s 1 0;wants c s 9;gives a b 1 0;gives b c 1 0;"
        + "gives a d 1 0;gives d c 1 0;";

    private static ThirdHands rivals(String d) {
        return Check.of(RIVALS.replace("sort s", "who d" + d + ";sort s"));
    }

    private static void rest() {
        Edge.test("Promise 23, Terms 4", "round by round (6 at most)", () -> {
            Check.same("six are enough", rivals(" asks 4").rest(), 6);
            Check.same("six are too few", rivals(" asks 5").rest(), -1);
        });
        Edge.test("Promise 23, Terms 4", "each one who asks above 0 as told", () -> {
            // d asks nothing as told: he stays so, and b gets nothing
            ThirdHands x = rivals("");
            Check.same("rest", x.rest(), 2);
            Check.same("b", x.restOf(1), 0);
            Check.same("d", x.restOf(3), 0);
            x = Check.of(MIDDLE + "wants c s 9;");
            Check.same("nobody asks", x.rest(), 1);
            Check.same("b asks nothing still", x.restOf(1), 0);
            // b asked above 0 as told: he goes on though he came to 0
            x = Check.of(RIVALS.replace("sort s", "who d asks 1;sort s"));
            Check.same("rest", x.rest(), 3);
            Check.same("b", x.restOf(1), 0);
        });
        Edge.test("Promise 23, Terms 4", "by numbers, asks as MIDDLE then, all others as they ask then", () -> {
            // 1: b 5, d 4; 2: 4, 3; 3: 3, 2; 4: 2, 1; 5: 1, 0; 6: b 0
            ThirdHands x = rivals(" asks 5");
            x.rest();
            Check.same("b at the end of six", x.restOf(1), 0);
            Check.same("d at the end of six", x.restOf(3), 0);
            // 1: b 7, d 6; 2: 6, 5; 3: 5, 4; 4: 4, 3; 5: 3, 2; 6: 2, 1
            x = rivals(" asks 99");
            Check.same("six are too few", x.rest(), -1);
            Check.same("b at the end of six", x.restOf(1), 2);
            Check.same("d at the end of six", x.restOf(3), 1);
        });
        Edge.test("Promise 23, Terms 4", "it is at REST with a round in which nobody changes what he asks", () -> {
            Check.same("b asks 7 as told", Check.of(MIDDLE.replace("who b", "who b asks 7") + "wants c s 9;").rest(), 1);
            Check.same("b asks 8 as told", Check.of(MIDDLE.replace("who b", "who b asks 8") + "wants c s 9;").rest(), 2);
            Check.same("empty", new ThirdHands().rest(), 1);
            ThirdHands x = Check.of("who a;who b;who c;who d;who e;who f;who g;who h asks 5;sort s 9;makes g s 1 0;wants a s 30;"
                + "gives g h 1 0;gives h a 1 0;");
            Check.same("the last of eight", x.rest(), 2);
            Check.same("what he asks", x.restOf(7), 20);
            Check.same("what is told stays", x.way(0, 0, 0), 7);
        });
    }

    private static void quarrelAndMend() {
        Edge.test("Promise 30, Terms 4", "QUARREL of two: neither gives to the other", () -> {
            String town = ABC + "makes a s 1 0;makes b s 1 0;wants b s 9;wants a s 9;gives a b 1 0;gives b a 1 0;law 2 any;";
            ThirdHands x = Check.of(town);
            Check.same("most", x.most(), 2);
            Check.same("a and b", x.quarrel(0, 1), 0);
            Check.same("b and a", x.quarrel(1, 0), 0);
            Check.same("a and c", x.quarrel(0, 2), 2);
        });
        Edge.test("Promise 32, Terms 4", "one giving more, not told yet, without PAINS, of 1 HOUR", () -> {
            String town = "who a;who b;sort s 3;law 2 any;makes a s 1 1;wants b s 0 by ";
            Check.same("of 1 hour", Check.of(town + "2;").mend(), 1);
            Check.same("not at once", Check.of(town + "1;").mend(), -1);
            Check.same("spoils at 2", Check.of(town.replace("sort s 3", "sort s 1") + "47;").mend(), -1);
            Check.same("spoils at 3", Check.of(town.replace("sort s 3", "sort s 2") + "47;").mend(), 1);
            // the giving that is told and too slow is not mended
            Check.same("told", Check.of(town + "2;gives a b 0 9;").mend(), -1);
        });
        Edge.test("Promise 32, Terms 4", "that with the greatest MOST (of like ones the first: who gives, then to whom)", () -> {
            String town = "who a;who b;who c;who d;sort s 9;law 2 any;makes b s 1 0;makes a s 2 0;wants c s 1;wants d s 1;";
            Check.same("a to c, a to d, b to c, b to d are alike", Check.of(town).mend(), 2);
            Check.same("a gives to c", Check.of(town + "gives a c 0 0;").mend(), 3);
            Check.same("two more by a to d", Check.of(town + "wants d s 1;").mend(), 3);
            String eight = "who a;who b;who c;who d;who e;who f;who g;who h;sort s 9;law 2 any;";
            Check.same("by the last ones", Check.of(eight + "makes h s 1 0;wants g s 1;").mend(), 76);
            Check.same("by none of eight", Check.of(eight + "wants g s 1;").mend(), -1);
            Check.same("to the last one", Check.of(eight + "makes a s 1 0;wants h s 1;").mend(), 7);
        });
    }

    private static void liveAndStop() {
        Edge.test("Promise 33, Terms 4", "that has a WANT, and all whose WANTS can be met", () -> {
            String town = "who a;who b;who c;sort s 9;law 2 any;makes a s 1 0;gives a b 1 0;gives a c 1 0;";
            Check.same("no WANT", Check.of(town).live(), 0);
            Check.same("b's", Check.of(town + "wants b s 0;").live(), 3);
            Check.same("b's two", Check.of(town + "wants b s 0;wants b s 0;").live(), 0);
            Check.same("b's two, c's one", Check.of(town + "wants b s 0;wants b s 0;wants c s 0;").live(), 5);
            // b and c cannot both be met by one unit, so one of them stays away
            Check.same("one of them", Check.of(town + "wants b s 0;wants c s 0;").live(), 3);
        });
        Edge.test("Promise 33, Terms 4", "by UNITS all FIRSTS of which are in it and WAYS all hands of which are", () -> {
            String town = "who a;who b;who c;who d;sort s 9;wants d s 0;gives a b 1 0;gives b d 1 0;";
            Check.same("the middle too", Check.of(town + "makes a s 1 0;").live(), 11);
            Check.same("the other FIRST too", Check.of(town + "makes a with c s 1 0;").live(), 15);
            Check.same("the other FIRST told first", Check.of(town + "makes c with a s 1 0;").live(), 15);
            Check.same("the user as a FIRST", Check.of(town + "makes d with a s 1 0;").live(), 11);
        });
        Edge.test("Promise 33, Terms 4", "the least set of PEOPLE (fewest, then as bits)", () -> {
            String town = "who a;who b;who c;who d;who e;sort s 9;law 2 any;";
            // {d, e} is fewer than {a, b, c}
            Check.same("fewest", Check.of(town + "makes a with b s 1 0;makes d s 1 0;gives a c 1 0;gives d e 1 0;wants c s 1;"
                + "wants e s 1;").live(), 24);
            // {a, d} 9, {b, c} 6
            Check.same("as bits", Check.of(town + "makes a s 1 0;makes b s 1 0;gives a d 1 0;gives b c 1 0;wants d s 1;"
                + "wants c s 1;").live(), 6);
        });
        Edge.test("Promise 34, Terms 4", "the least set (fewest, then as bits) of PEOPLE who give nothing, so that no WANT can be met", () -> {
            String town = "who a;who b;who c;who d;sort s 9;wants d s 0;gives a b 1 0;gives b d 1 0;gives a c 1 0;gives c d 1 0;";
            Check.same("nothing is made", Check.of(town).stop(), 0);
            Check.same("the maker, fewer than the middles", Check.of(town + "makes a s 1 0;").stop(), 1);
            // a or b: the lesser bits; b alone is the middle for two makers
            String chain = "who a;who b;who c;who d;sort s 9;wants d s 0;gives a b 1 0;gives b d 1 0;gives c b 1 0;";
            Check.same("a ahead of b", Check.of(chain + "makes a s 1 0;").stop(), 1);
            Check.same("b alone", Check.of(chain + "makes a s 1 0;makes c s 1 0;").stop(), 2);
            // the last hand gives nothing anyway
            Check.same("the last maker", Check.of("who a;who b;who c;sort s 9;law 2 any;makes c s 1 0;wants a s 0;gives c a 1 0;")
                .stop(), 4);
            // all of them: each gives to the other what that one wants
            Check.same("all", Check.of("who a;who b;sort s 9;law 2 any;makes a s 1 0;makes b s 1 0;wants a s 0;wants b s 0;gives a b 1 0;"
                + "gives b a 1 0;").stop(), 3);
            // two makers and no middle: both
            Check.same("both", Check.of("who a;who b;who c;sort s 9;law 2 any;makes c s 1 0;makes b s 1 0;wants a s 0;"
                + "gives c a 1 0;gives b a 1 0;").stop(), 6);
        });
    }
}
